/-! what the class's own methods do -/
/-- lo to hi -/
def wB (p lo hi : Int32) : Bool := decide (¬ p < lo) && decide (¬ hi < p)
theorem sp_within {p lo hi : Int32} {Q : Bool → Prop} (h : Q (wB p lo hi)) : call_X3_isWithin p lo hi Q := by
  intro X14 X15 h14 h15
  refine ⟨fun c => h14 (h15 _ ?_), fun c => ⟨fun c2 => h14 (h15 _ ?_), fun c2 => h15 _ ?_⟩⟩
  · simpa [wB, c] using h
  · simpa [wB, c, c2] using h
  · simpa [wB, c, c2] using h
theorem sp_isKey {p : Int32} {Q : Bool → Prop} (h : Q (wB p 0 999)) : call_X3_isKey p Q := sp_within h
theorem sp_isValue {p : Int32} {Q : Bool → Prop} (h : Q (wB p (-1000) 1000)) : call_X3_isValue p Q := sp_within h
def told (v t k : Int32) : Bool := wB v (-1000) 1000 && (wB t 0 255 && wB k (-1) 999)
theorem sp_areTold {v t k : Int32} {Q : Bool → Prop} (h : Q (told v t k)) : call_X3_areTold v t k Q := by
  intro X33 X34 h33 h34
  refine sp_isValue ⟨fun c => h33 (h34 _ ?_), fun c => sp_within ⟨fun c2 => h33 (h34 _ ?_), fun c2 => sp_within ⟨fun c3 => h33 (h34 _ ?_), fun c3 => h34 _ ?_⟩⟩⟩
  · simpa [told, c] using h
  · simpa [told, c, c2] using h
  · simpa [told, c, c2, c3] using h
  · simpa [told, c, c2, c3] using h
def cbf (k a b : Int32) : Bool := if k = 0 then true else if k = 1 then wB a 0 255 else if k = 2 then wB a (-1000) 1000 && wB b (-1000) 1000 else if k = 3 then wB a 0 2 else if k = 4 then wB a 0 999 else if k = 5 then wB a 0 999 else false
theorem sp_canBeFound {k a b : Int32} {Q : Bool → Prop} (h : Q (cbf k a b)) : call_X3_canBeFound k a b Q := by
  intro X69 X70 h69 h70
  refine ⟨fun c => ?_, fun c => sp_within ?_, fun c => sp_isValue ⟨fun c2 => h69 (h70 _ ?_), fun c2 => sp_isValue ⟨fun c3 => h69 (h70 _ ?_), fun c3 => h70 _ ?_⟩⟩, fun c => sp_within ?_, fun c => sp_isKey ?_, fun c => sp_isKey ?_, fun c0 c1 c2 c3 c4 c5 => ?_⟩
  · subst c; exact h
  · subst c; exact h
  · subst c; simpa [cbf, c2] using h
  · subst c; simpa [cbf, c2, c3] using h
  · subst c; simpa [cbf, c2, c3] using h
  · subst c; exact h
  · subst c; exact h
  · subst c; exact h
  · simpa [cbf, c0, c1, c2, c3, c4, c5] using h
/-- whether an object is found -/
def fnd (k a b l v t lk ky : Int32) : Bool := if k = 1 then decide (t &&& a = a) else if k = 2 then wB v a b else if k = 3 then decide (l = a) else if k = 4 then decide (l = 2) && decide (ky = a) else if k = 5 then decide (lk = a) else true
theorem sp_isFound {i : Nat} {k a b : Int32} {lv va tg lk ky : Nat → Int32} {Q : Bool → Prop} (hi : i < 200) (h : Q (fnd k a b (lv i) (va i) (tg i) (lk i) (ky i))) : call_X3_isFound (nI i) k a b lv va tg lk ky Q := by
  intro X56 X91 X120 X121 X140 h56 h91 h120 h121 h140
  refine ⟨fun c => ⟨i, hi, rfl, fun c2 => h56 _ ?_, fun c2 => h56 _ ?_⟩, fun c => ⟨i, hi, rfl, sp_within ?_⟩, fun c => ⟨i, hi, rfl, fun c2 => h91 _ ?_, fun c2 => h91 _ ?_⟩, fun c => sp_isRoot hi ⟨fun c2 => h120 (h121 _ ?_), fun c2 => ⟨i, hi, rfl, fun c3 => h120 (h121 _ ?_), fun c3 => h121 _ ?_⟩⟩, fun c => ⟨i, hi, rfl, fun c2 => h140 _ ?_, fun c2 => h140 _ ?_⟩, fun c1 c2 c3 c4 c5 => ?_⟩
  · subst c; simpa [fnd, c2] using h
  · subst c; simpa [fnd, c2] using h
  · subst c; exact h
  · subst c; simpa [fnd, c2] using h
  · subst c; simpa [fnd, c2] using h
  · subst c; simp only [decide_eq_false_iff_not] at c2; simpa [fnd, c2] using h
  · subst c; simpa [fnd, c3] using h
  · subst c; simp only [decide_eq_true_eq] at c2; simpa [fnd, c2, c3] using h
  · subst c; simpa [fnd, c2] using h
  · subst c; simpa [fnd, c2] using h
  · simpa [fnd, c1, c2, c3, c4, c5] using h
def bcS (p : Int32) (k : Int32) : Int32 := (p.toUInt32 >>> (k.toUInt32 &&& Int32.toUInt32 31)).toInt32
def bc1 (p : Int32) : Int32 := p - (bcS p 1 &&& 1431655765)
def bc2 (p : Int32) : Int32 := (bc1 p &&& 858993459) + (bcS (bc1 p) 2 &&& 858993459)
def bc3 (p : Int32) : Int32 := (bc2 p + bcS (bc2 p) 4) &&& 252645135
def bc4 (p : Int32) : Int32 := bc3 p + bcS (bc3 p) 8
def bcI (p : Int32) : Int32 := (bc4 p + bcS (bc4 p) 16) &&& 63
theorem sp_bitCount {p : Int32} {Q : Int32 → Prop} (h : Q (bcI p)) : call_J6_bitCount_0f7a4 p Q := h
def scf (k a v : Int32) : Int64 := if k = 1 then (bcI a).toInt64 else if k = 2 then v.toInt64 else if k = 4 then 1 else if k = 5 then 1 else 0
theorem sp_scoreFound {i : Nat} {k a : Int32} {va : Nat → Int32} {Q : Int64 → Prop} (hi : i < 200) (h : Q (scf k a (va i))) : call_X3_scoreFound (nI i) k a va Q := by
  refine ⟨fun c => sp_bitCount ?_, fun c => ⟨i, hi, rfl, ?_⟩, fun c => ?_, fun c => ?_, fun c => ?_, fun c1 c2 c3 c4 c5 => ?_⟩
  · subst c; exact h
  · subst c; exact h
  · subst c; exact h
  · subst c; exact h
  · subst c; exact h
  · simpa [scf, c1, c2, c3, c4, c5] using h
/-- the values of the rules over what P takes -/
def sumF (P : Nat → Bool) (sc : Nat → Int64) : Nat → Int64
  | 0 => 0
  | n + 1 => if P n then sumF P sc n + sc n else sumF P sc n
def mostF (P : Nat → Bool) (sc : Nat → Int64) : Nat → Int64
  | 0 => 0
  | n + 1 => if P n then (if cnt P n = 0 then sc n else if mostF P sc n < sc n then sc n else mostF P sc n) else mostF P sc n
def leastF (P : Nat → Bool) (sc : Nat → Int64) : Nat → Int64
  | 0 => 0
  | n + 1 => if P n then (if cnt P n = 0 then sc n else if sc n < leastF P sc n then sc n else leastF P sc n) else leastF P sc n
/-- so far, by a rule (the mean's is the sum) -/
def accF (r : Int32) (P : Nat → Bool) (sc : Nat → Int64) (n : Nat) : Int64 := if r = 1 then mostF P sc n else if r = 2 then leastF P sc n else if r = 3 then lN (cnt P n) else sumF P sc n
def valF (r : Int32) (P : Nat → Bool) (sc : Nat → Int64) (n : Nat) : Int64 := if r = 4 then sumF P sc n / lN (cnt P n) else accF r P sc n
theorem sumF_z {P : Nat → Bool} {sc : Nat → Int64} {n : Nat} (h : cnt P n = 0) : sumF P sc n = 0 := by
  induction n with
  | zero => rfl
  | succ n ih =>
    simp only [cnt] at h
    by_cases c : P n = true
    · rw [if_pos c] at h; omega
    · simp only [sumF]; rw [if_neg c]; rw [if_neg c] at h; exact ih h
theorem sumF_congr {P R : Nat → Bool} {sc sd : Nat → Int64} {n : Nat} (h : ∀ i, i < n → P i = R i) (hs : ∀ i, i < n → P i = true → sc i = sd i) : sumF P sc n = sumF R sd n := by
  induction n with
  | zero => rfl
  | succ n ih =>
    simp only [sumF]
    rw [ih (fun i hi => h i (by omega)) (fun i hi => hs i (by omega)), h n (by omega)]
    by_cases c : R n = true
    · rw [if_pos c, if_pos c, hs n (by omega) (by rw [h n (by omega)]; exact c)]
    · rw [if_neg c, if_neg c]
theorem mostF_congr {P R : Nat → Bool} {sc sd : Nat → Int64} {n : Nat} (h : ∀ i, i < n → P i = R i) (hs : ∀ i, i < n → P i = true → sc i = sd i) : mostF P sc n = mostF R sd n := by
  induction n with
  | zero => rfl
  | succ n ih =>
    simp only [mostF]
    rw [ih (fun i hi => h i (by omega)) (fun i hi => hs i (by omega)), h n (by omega), cnt_congr (fun i hi => h i (by omega))]
    by_cases c : R n = true
    · rw [if_pos c, if_pos c, hs n (by omega) (by rw [h n (by omega)]; exact c)]
    · rw [if_neg c, if_neg c]
theorem leastF_congr {P R : Nat → Bool} {sc sd : Nat → Int64} {n : Nat} (h : ∀ i, i < n → P i = R i) (hs : ∀ i, i < n → P i = true → sc i = sd i) : leastF P sc n = leastF R sd n := by
  induction n with
  | zero => rfl
  | succ n ih =>
    simp only [leastF]
    rw [ih (fun i hi => h i (by omega)) (fun i hi => hs i (by omega)), h n (by omega), cnt_congr (fun i hi => h i (by omega))]
    by_cases c : R n = true
    · rw [if_pos c, if_pos c, hs n (by omega) (by rw [h n (by omega)]; exact c)]
    · rw [if_neg c, if_neg c]
theorem valF_congr {r : Int32} {P R : Nat → Bool} {sc sd : Nat → Int64} {n : Nat} (h : ∀ i, i < n → P i = R i) (hs : ∀ i, i < n → P i = true → sc i = sd i) : valF r P sc n = valF r R sd n := by
  unfold valF accF
  rw [sumF_congr h hs, mostF_congr h hs, leastF_congr h hs, cnt_congr h]
theorem sumF_ext {P : Nat → Bool} {sc : Nat → Int64} {n m : Nat} (h : n ≤ m) (hz : ∀ i, n ≤ i → i < m → P i = false) : sumF P sc m = sumF P sc n := by
  induction m with
  | zero => rw [show n = 0 by omega]
  | succ m ih =>
    by_cases e : n = m + 1
    · rw [e]
    · simp only [sumF]; rw [hz m (by omega) (by omega)]; exact ih (by omega) (fun i h1 h2 => hz i h1 (by omega))
theorem mostF_ext {P : Nat → Bool} {sc : Nat → Int64} {n m : Nat} (h : n ≤ m) (hz : ∀ i, n ≤ i → i < m → P i = false) : mostF P sc m = mostF P sc n := by
  induction m with
  | zero => rw [show n = 0 by omega]
  | succ m ih =>
    by_cases e : n = m + 1
    · rw [e]
    · simp only [mostF]; rw [hz m (by omega) (by omega)]; exact ih (by omega) (fun i h1 h2 => hz i h1 (by omega))
theorem leastF_ext {P : Nat → Bool} {sc : Nat → Int64} {n m : Nat} (h : n ≤ m) (hz : ∀ i, n ≤ i → i < m → P i = false) : leastF P sc m = leastF P sc n := by
  induction m with
  | zero => rw [show n = 0 by omega]
  | succ m ih =>
    by_cases e : n = m + 1
    · rw [e]
    · simp only [leastF]; rw [hz m (by omega) (by omega)]; exact ih (by omega) (fun i h1 h2 => hz i h1 (by omega))
theorem valF_ext {r : Int32} {P : Nat → Bool} {sc : Nat → Int64} {n m : Nat} (h : n ≤ m) (hz : ∀ i, n ≤ i → i < m → P i = false) : valF r P sc m = valF r P sc n := by
  unfold valF accF
  rw [sumF_ext h hz, mostF_ext h hz, leastF_ext h hz, cnt_ext h hz]
/-- a combine step -/
theorem accF_s {r : Int32} {P : Nat → Bool} {sc : Nat → Int64} {n : Nat} {Q : Int64 → Prop} (hp : P n = true) (h : Q (accF r P sc (n + 1))) : (¬ nI (cnt P n) = 0 → call_X3_combine r (accF r P sc n) (if r = 3 then 1 else sc n) Q) ∧ (nI (cnt P n) = 0 → cnt P n < 2 ^ 31 → Q (if r = 3 then 1 else sc n)) := by
  unfold accF at h ⊢
  simp only [mostF, leastF, sumF, cnt, hp, if_true] at h
  refine ⟨fun c => ?_, fun c hb => ?_⟩
  · have c0 : ¬ cnt P n = 0 := fun e => c (by rw [e]; rfl)
    rw [if_neg c0, if_neg c0] at h
    refine ⟨fun e => ?_, fun e => ?_, fun e1 e2 => ?_⟩
    · subst e
      have h : Q (if mostF P sc n < sc n then sc n else mostF P sc n) := h
      show Q (if sc n < mostF P sc n then mostF P sc n else sc n)
      have e : (if sc n < mostF P sc n then mostF P sc n else sc n) = (if mostF P sc n < sc n then sc n else mostF P sc n) := by
        by_cases z : sc n < mostF P sc n
        · rw [if_pos z, if_neg (fun z2 => by rw [i64_lt] at z z2; omega)]
        · rw [if_neg z]
          by_cases z2 : mostF P sc n < sc n
          · rw [if_pos z2]
          · rw [if_neg z2, i64_eq]; rw [i64_lt] at z z2; omega
      rw [e]; exact h
    · subst e
      have h : Q (if sc n < leastF P sc n then sc n else leastF P sc n) := h
      exact h
    · rw [if_neg e1, if_neg e2] at h ⊢
      by_cases e3 : r = 3
      · rw [if_pos e3] at h ⊢
        rw [if_pos e3, lN_1]; exact h
      · rw [if_neg e3] at h ⊢
        rw [if_neg e3]; exact h
  · have c0 : cnt P n = 0 := by
      rw [show (0 : Int32) = nI 0 from rfl, nI_eq hb (by decide)] at c; exact c
    rw [if_pos c0, if_pos c0, c0, sumF_z c0] at h
    by_cases e1 : r = 1
    · subst e1; exact h
    · rw [if_neg e1] at h
      by_cases e2 : r = 2
      · subst e2; exact h
      · rw [if_neg e2] at h
        by_cases e3 : r = 3
        · rw [if_pos e3] at h ⊢; exact h
        · rw [if_neg e3] at h ⊢
          rw [Int64.zero_add] at h; exact h
/-- what a set has below u -/
def blw (lv : Nat → Int32) (mem : Nat → Bool) (u : Nat) : Nat → Bool := fun i => decide (fb lv u ≤ i) && (decide (i < u) && mem i)
theorem sp_gatherBelow {u : Nat} {r : Int32} {lv : Nat → Int32} {km m : Nat → Bool} {ks c : Nat → Int64} {Q : Int32 → (Nat → Bool) → (Nat → Int64) → Prop} (hu : u < 200)
    (h0 : cnt (blw lv km u) u = 0 → Q (nI (cnt m 200)) m c) (h1 : 0 < cnt (blw lv km u) u → Q (nI (cnt (va_up m u true) 200)) (va_up m u true) (va_up c u (valF r (blw lv km u) ks u))) : call_X3_gatherBelow (nI u) r lv km ks (nI (cnt m 200)) m c Q := by
  intro X16 X53 X73 X78 X107 X110 h16 h53 h73 h78 h107 h110
  have hf := fb_le lv u
  have L : ∀ d i, i + d = u → fb lv u ≤ i → X16 (nI (cnt (blw lv km u) i)) (accF r (blw lv km u) ks i) (nI i) (nI (cnt m 200)) m c := by
    intro d
    induction d with
    | zero =>
      intro i hi _
      obtain rfl : i = u := by omega
      have hc := cnt_le (blw lv km i) i
      refine h16 _ _ _ _ _ _ ⟨fun _ => ⟨fun q => h110 _ _ _ (h0 ?_), fun q => ?_⟩, fun q => absurd (nI_le (Nat.le_refl i) (by omega)) q⟩
      · rw [z_nI, nI_leI (by omega) (by decide)] at q; omega
      · rw [z_nI, nI_leI (by omega) (by decide)] at q
        have h2 := h1 (by omega)
        refine ⟨fun e => h107 _ _ _ _ _ (sp_put hu (h110 _ _ _ ?_)), fun e => ⟨fun e2 => ?_, h107 _ _ _ _ _ (sp_put hu (h110 _ _ _ ?_))⟩⟩
        · unfold valF at h2; rw [if_neg e] at h2; exact h2
        · rw [nI_l (by omega), show (0 : Int64) = lN 0 from rfl, lN_eq (by omega) (by decide)] at e2; omega
        · unfold valF at h2; rw [if_pos e] at h2
          subst e
          rw [nI_l (by omega)]; exact h2
    | succ d ih =>
      intro i hi hfi
      have hc := cnt_le (blw lv km u) i
      have ih' := ih (i + 1) (by omega) (by omega)
      refine h16 _ _ _ _ _ _ ⟨fun q => absurd q (nI_ge (by omega) (by omega)), fun _ => sp_hasN (by omega) ⟨fun q => h78 _ _ _ _ _ _ ?_, fun q => ?_⟩⟩
      · have hb : blw lv km u i = false := by simp [blw, q]
        have e1 : cnt (blw lv km u) (i + 1) = cnt (blw lv km u) i := by simp only [cnt, hb]; rfl
        have e2 : accF r (blw lv km u) ks (i + 1) = accF r (blw lv km u) ks i := by
          unfold accF; simp only [mostF, leastF, sumF, cnt, hb]; rfl
        rw [e1, e2] at ih'
        rw [nI_1]; exact ih'
      · have hb : blw lv km u i = true := by simp [blw, q]; omega
        have e1 : cnt (blw lv km u) (i + 1) = cnt (blw lv km u) i + 1 := by simp only [cnt, hb]; rfl
        have st := accF_s (r := r) (P := blw lv km u) (sc := ks) (n := i) (Q := fun v => X73 (nI (cnt (blw lv km u) i)) (nI i) v (nI (cnt m 200)) m c) hb (h73 _ _ _ _ _ _ (h78 _ _ _ _ _ _ (by rw [nI_1, nI_1, ← e1]; exact ih')))
        refine ⟨fun e => ⟨i, by omega, rfl, h53 _ _ _ _ _ _ _ ?_⟩, fun e => h53 _ _ _ _ _ _ _ ?_⟩
        · rw [if_neg e] at st; exact ⟨st.1, fun z => st.2 z (by omega)⟩
        · rw [if_pos e] at st; exact ⟨st.1, fun z => st.2 z (by omega)⟩
  refine sp_firstBelow hu (by decide) ?_
  have := L (u - fb lv u) (fb lv u) (by omega) (Nat.le_refl _)
  have e0 : cnt (blw lv km u) (fb lv u) = 0 := cnt_zero (fun i hi => by simp [blw]; omega)
  have e1 : accF r (blw lv km u) ks (fb lv u) = 0 := by
    unfold accF
    have q0 : ∀ i, 0 ≤ i → i < fb lv u → blw lv km u i = false := fun i _ hi => by simp [blw]; omega
    rw [mostF_ext (Nat.zero_le _) q0, leastF_ext (Nat.zero_le _) q0, sumF_ext (Nat.zero_le _) q0, e0]
    simp only [mostF, leastF, sumF]
    split
    · rfl
    · split
      · rfl
      · split <;> rfl
  rw [e0, e1] at this
  exact this
