/-- the roots of a set that tell i -/
def lnk (n : Nat) (lv ky lk : Nat → Int32) (al mem : Nat → Bool) (i : Nat) : Nat → Bool := fun p => mem p && (decide (lv p = 2) && (decide (i < n) && (al i && decide (lk i = ky p))))
def lastF (P : Nat → Bool) (sc : Nat → Int64) : Nat → Int64
  | 0 => 0
  | n + 1 => if P n then sc n else lastF P sc n
theorem lastF_congr {P R : Nat → Bool} {sc sd : Nat → Int64} {n : Nat} (h : ∀ i, i < n → P i = R i) (hs : ∀ i, i < n → P i = true → sc i = sd i) : lastF P sc n = lastF R sd n := by
  induction n with
  | zero => rfl
  | succ n ih =>
    simp only [lastF]
    rw [ih (fun i hi => h i (by omega)) (fun i hi => hs i (by omega)), h n (by omega)]
    by_cases c : R n = true
    · rw [if_pos c, if_pos c, hs n (by omega) (by rw [h n (by omega)]; exact c)]
    · rw [if_neg c, if_neg c]
theorem sp_over {ds1 d n : Nat} {tsz : Int32} {lv lk ky : Nat → Int32} {al tm mem : Nat → Bool} {ts sc : Nat → Int64} {Q : Int32 → Int32 → (Nat → Bool) → (Nat → Int64) → Int32 → (Nat → Bool) → (Nat → Int64) → Prop} (hn : n ≤ 200) (hd : d ≤ 8) (hds : 1 ≤ d → ds1 = d - 1)
    (h3 : d = 0 → Q (-3) tsz tm ts (nI (cnt mem 200)) mem sc)
    (h : 1 ≤ d → ∀ (m' : Nat → Bool) (c' : Nat → Int64) (tsz' : Int32) (tm' : Nat → Bool) (ts' : Nat → Int64), (∀ i, i < 200 → m' i = decide (0 < cnt (lnk n lv ky lk al mem i) n)) → (∀ i, i < 200 → m' i = true → c' i = lastF (lnk n lv ky lk al mem i) sc n) → Q (nI (cnt m' 200)) tsz' tm' ts' (nI (cnt m' 200)) m' c') : call_X3_over ds1 (nI d) (nI n) lv lk ky al tsz tm ts (nI (cnt mem 200)) mem sc Q := by
  intro X33 X72 h33 h72
  refine ⟨fun c2 => ?_, fun c2 => h3 ?_⟩
  · rw [nI1, nI_leI (by decide) (by omega)] at c2
    have hh := h c2
    refine ⟨by rw [nIm1 c2, hds c2], sp_moveTo (fun m0 k0 s0 hm0 hk0 hs0 => ?_)⟩
    have L : ∀ e p (m1 : Nat → Bool) (c1 : Nat → Int64), p + e = n → (∀ j, j < 200 → m1 j = decide (0 < cnt (lnk n lv ky lk al mem j) p)) → (∀ j, j < 200 → m1 j = true → c1 j = lastF (lnk n lv ky lk al mem j) sc p) → X33 (nI p) (nI (cnt k0 200)) k0 s0 (nI (cnt m1 200)) m1 c1 := by
      intro e
      induction e with
      | zero =>
        intro i m1 c1 hi hm hc
        obtain rfl : i = n := by omega
        exact h33 _ _ _ _ _ _ _ ⟨fun _ => hh m1 c1 _ _ _ hm hc, fun q => absurd (nI_le (Nat.le_refl i) (by omega)) q⟩
      | succ e ih =>
        intro p m1 c1 hi hm hc
        have no : (mem p && decide (lv p = 2)) = false → X72 (nI p) (nI (cnt k0 200)) k0 s0 (nI (cnt m1 200)) m1 c1 := fun q => by
          refine h72 _ _ _ _ _ _ _ ?_
          rw [nI_1]
          have hz : ∀ j, lnk n lv ky lk al mem j p = false := fun j => by
            unfold lnk; rw [← Bool.and_assoc, q, Bool.false_and]
          refine ih (p + 1) m1 c1 (by omega) (fun j hj => ?_) (fun j hj z => ?_)
          · rw [hm j hj]; simp only [cnt, hz j]; rfl
          · rw [hc j hj z]; simp only [lastF, hz j]; rfl
        refine h33 _ _ _ _ _ _ _ ⟨fun q => absurd q (nI_ge (by omega) (by omega)), fun _ => sp_hasN (by omega) ⟨fun q => no ?_, fun q => sp_isRoot (by omega) ⟨fun q2 => no ?_, fun q2 => sp_spreadToLinked (by omega) hn (fun m' c' hm' hc' => h72 _ _ _ _ _ _ _ ?_)⟩⟩⟩
        · rw [hk0 p (by omega)] at q; simp [q]
        · simp [q2]
        · rw [hk0 p (by omega)] at q
          rw [nI_1]
          have hp : ∀ j, lnk n lv ky lk al mem j p = (decide (j < n) && (al j && decide (lk j = ky p))) := fun j => by
            unfold lnk; rw [q, q2]; simp
          refine ih (p + 1) m' c' (by omega) (fun j hj => ?_) (fun j hj z => ?_)
          · rw [hm' j hj, hm j hj]; simp only [cnt, hp j]
            cases z2 : (decide (j < n) && (al j && decide (lk j = ky p))) <;> simp
          · rw [hm' j hj] at z
            rw [hc' j hj]
            simp only [lastF, hp j]
            cases z2 : (decide (j < n) && (al j && decide (lk j = ky p)))
            · rw [z2, Bool.or_false] at z
              rw [if_neg (by decide), if_neg (by decide)]
              exact hc j hj z
            · rw [if_pos rfl, if_pos rfl]
              exact hs0 p (by omega) q
    exact L n 0 m0 sc (by omega) (fun j hj => by rw [hm0 j hj]; simp [cnt]) (fun j hj q => by rw [hm0 j hj] at q; exact absurd q (by decide))
  · rw [nI1, nI_leI (by decide) (by omega)] at c2; omega
theorem sp_again {ds1 ds2 d : Nat} {sz : Int32} {m1 m2 : Nat → Bool} {s1 s2 : Nat → Int64} {Q : Int32 → Int32 → Int32 → (Nat → Bool) → (Nat → Int64) → Prop} (hd : d ≤ 8) (hds : 1 ≤ d → ds2 = d - 1) (hd2 : d < 8 → ds1 = d)
    (h3 : d = 0 → Q (-3) (nI d) sz m1 s1) (h4 : d = 8 → Q (-4) (nI d) sz m1 s1)
    (h : 1 ≤ d → d < 8 → ∀ (m' : Nat → Bool) (c' : Nat → Int64), (∀ i, i < 200 → m' i = m2 i) → (∀ i, i < 200 → m' i = true → c' i = s2 i) → Q (nI (d + 1)) (nI (d + 1)) (nI (cnt m' 200)) m' c') : call_X3_again ds1 ds2 (nI d) sz m1 s1 m2 s2 Q := by
  refine ⟨fun c => ⟨fun c2 => ?_, fun c2 => h4 ?_⟩, fun c => h3 ?_⟩
  · rw [nI1, nI_leI (by decide) (by omega)] at c
    rw [nI8, nI_ltI (by omega) (by decide)] at c2
    refine ⟨by rw [hd2 c2], sp_clear (fun m0 hm0 => ⟨by rw [nIm1 c, hds c], ?_⟩)⟩
    rw [cnt0 hm0]
    refine sp_addAll (fun m' c' hm hc => ?_)
    rw [nI_1]
    refine h c c2 m' c' (fun i hi => by rw [hm i hi, hm0 i hi]; rfl) (fun i hi z => ?_)
    rw [hm i hi, hm0 i hi] at z
    have z : m2 i = true := z
    rw [hc i hi, z, hm0 i hi]; rfl
  · rw [nI8, nI_ltI (by omega) (by decide)] at c2; omega
  · rw [nI1, nI_leI (by decide) (by omega)] at c; omega
theorem sp_pop {d : Nat} {Q : Int32 → Int32 → Prop} (hd : d ≤ 8) (h3 : d = 0 → Q (-3) (nI d)) (h : 1 ≤ d → Q (nI (d - 1)) (nI (d - 1))) : call_X3_pop (nI d) Q := by
  refine ⟨fun c => ?_, fun c => h3 ?_⟩
  · rw [nI1, nI_leI (by decide) (by omega)] at c
    rw [nIm1 c]; exact h c
  · rw [nI1, nI_leI (by decide) (by omega)] at c; omega
theorem sp_hit {ds1 d n : Nat} {k rsz : Int32} {num mrg : Nat → Int32} {mem : Nat → Bool} {sc : Nat → Int64} {Q : Int32 → Int32 → (Nat → Int32) → (Nat → Int32) → Prop} (hn : n ≤ 200) (hd : d ≤ 8) (hds : 1 ≤ d → ds1 = d - 1)
    (h3 : d = 0 → Q (-3) rsz num mrg) (h : 1 ≤ d → ∀ (L : List Nat) (rsz' : Int32) (num' mrg' : Nat → Int32), RK sc mem 0 n L → Q (ans L k) rsz' num' mrg') : call_X3_hit ds1 k (nI d) (nI n) rsz num mrg mem sc Q := by
  refine ⟨fun c => ?_, fun c => h3 ?_⟩
  · rw [nI1, nI_leI (by decide) (by omega)] at c
    refine ⟨by rw [nIm1 c, hds c], ?_⟩
    refine sp_rank (a := 0) (Nat.zero_le n) hn (fun L n' m' hL hv => sp_answerRanked ?_ hv (h c L _ _ _ hL))
    have := hL.len; omega
  · rw [nI1, nI_leI (by decide) (by omega)] at c; omega
theorem sp_score {ds1 d : Nat} {p : Int32} {mem : Nat → Bool} {sc : Nat → Int64} {Q : Int64 → Prop} (hd : d ≤ 8) (hds : 1 ≤ d → ds1 = d - 1)
    (h0 : d = 0 → Q (-9223372036854775808)) (hf : 1 ≤ d → (∀ j, j < 200 → p = nI j → mem j = false) → Q (-9223372036854775808)) (ht : 1 ≤ d → ∀ j, j < 200 → p = nI j → mem j = true → Q (sc j)) : call_X3_score ds1 p (nI d) mem sc Q := by
  intro X44 h44
  refine ⟨fun c => ?_, fun c => h0 ?_⟩
  · rw [nI1, nI_leI (by decide) (by omega)] at c
    refine ⟨by rw [nIm1 c, hds c], sp_has (fun j hj e => ⟨fun q => h44 _ (hf c (fun i hi e2 => ?_)), fun q => ⟨j, hj, e, h44 _ (ht c j hj e q)⟩⟩) (fun q => ⟨fun _ => h44 _ (hf c (fun i hi e2 => absurd e2 (q i hi))), fun z => absurd z (by decide)⟩)⟩
    rw [e, nI_eq (by omega) (by omega)] at e2
    rw [← e2]; exact q
  · rw [nI1, nI_leI (by decide) (by omega)] at c; omega
theorem sp_family {n : Nat} {p k rsz : Int32} {w : Bool} {lv num mrg : Nat → Int32} {km : Nat → Bool} {ks : Nat → Int64} {Q : Int32 → Int32 → (Nat → Int32) → (Nat → Int32) → Prop} (hn : n ≤ 200)
    (hw : w = false → Q (-1) rsz num mrg) (hf : w = true → (∀ j, j < n → ¬ p = nI j) → Q (-1) rsz num mrg)
    (h : w = true → ∀ j, j < n → p = nI j → ∀ (L : List Nat) (rsz' : Int32) (num' mrg' : Nat → Int32), RK ks km (fb lv j) j L → Q (ans L k) rsz' num' mrg') : call_X3_family p k w (nI n) lv km ks rsz num mrg Q := by
  intro X18 h18
  refine ⟨fun c => h18 _ _ _ (hw c), fun c => sp_holds (by omega) (fun j hj e => ⟨fun _ => ?_, fun z => absurd z (by decide)⟩) (fun q => ⟨fun z => absurd z (by decide), fun _ => h18 _ _ _ (hf c q)⟩)⟩
  have hfb := fb_le lv j
  rw [e]
  refine sp_firstBelow (by omega) (by decide) ?_
  refine sp_rank hfb (by omega) (fun L n' m' hL hv => sp_answerRanked ?_ hv (h c j hj e L _ _ _ hL))
  have := hL.len; omega
theorem nI60 : (60 : Int32) = nI 60 := rfl
theorem sp_child {o : Nat} {l v t k : Int32} {lv va tg lk ky : Nat → Int32} {al : Nat → Bool} {Q : Int32 → Int32 → (Nat → Int32) → (Nat → Int32) → (Nat → Int32) → (Nat → Int32) → (Nat → Int32) → (Nat → Bool) → Prop} (ho : o ≤ 60)
    (h2 : (wB l 0 1 && told v t k) = false → Q (-2) (nI o) lv va tg lk ky al) (h4 : (wB l 0 1 && told v t k) = true → o = 60 → Q (-4) (nI o) lv va tg lk ky al)
    (h : (wB l 0 1 && told v t k) = true → o < 60 → Q (nI (o + 1)) (nI (o + 1)) (va_up lv o l) (va_up va o v) (va_up tg o t) (va_up lk o k) (va_up ky o (-1)) (va_up al o true)) : call_X3_child l v t k (nI o) lv va tg lk ky al Q := by
  intro X19 h19
  refine sp_within ⟨fun c => h19 _ _ _ _ _ _ _ (h2 (by simp [c])), fun c => sp_areTold ⟨fun c1 => ⟨fun c2 => ?_, fun c2 => h4 (by simp [c, c1]) ?_⟩, fun c1 => h19 _ _ _ _ _ _ _ (h2 (by simp [c1]))⟩⟩
  · rw [nI60, nI_ltI (by omega) (by decide)] at c2
    exact sp_append c2 (h (by simp [c, c1]) c2)
  · rw [nI60, nI_ltI (by omega) (by decide)] at c2; omega
theorem orM_lt {k n : Nat} (h : k < n) : orM k n = nI k := if_pos h
theorem orM_ge {k n : Nat} (h : n ≤ k) : orM k n = -1 := if_neg (by omega)
theorem sp_kill {n : Nat} {key dp : Int32} {w : Bool} {lv ky : Nat → Int32} {al : Nat → Bool} {Q : Int32 → Int32 → Bool → (Nat → Bool) → Prop} (hn : n ≤ 200)
    (h1 : n ≤ ffr (lrP al lv ky key) n 0 → Q (-1) dp w al)
    (h : ∀ u, u = ffr (lrP al lv ky key) n 0 → u < n → Q (nI (u - fb lv u + 1)) 0 false (kil al (fb lv u) (u + 1))) : call_X3_kill key dp w (nI n) lv ky al Q := by
  refine sp_livingRoot hn (by decide) ⟨fun c => ?_, fun c => ?_⟩
  · by_cases e : ffr (lrP al lv ky key) n 0 < n
    · rw [orM_lt e]
      show call_X1_killBlock 200 (nI (ffr (lrP al lv ky key) n 0)) lv al (fun r a => Q r 0 false a)
      exact sp_killBlock (by omega) (by decide) (h _ rfl e)
    · exact absurd (orM_ge (by omega)) c
  · by_cases e : ffr (lrP al lv ky key) n 0 < n
    · rw [orM_lt e] at c
      exact absurd c.symm (m1_nI (by omega))
    · exact h1 (by omega)
theorem sp_root {n : Nat} {key : Int32} {lv ky : Nat → Int32} {al : Nat → Bool} {Q : Int32 → Prop} (hn : n ≤ 200) (h : Q (orM (ffr (lrP al lv ky key) n 0) n)) : call_X3_root key (nI n) lv ky al Q := by
  intro X19 h19
  refine sp_livingRoot hn (by decide) ⟨fun c => h19 _ h, fun c => h19 _ ?_⟩
  rw [c] at h; exact h
theorem sp_merge {n : Nat} {dp : Int32} {w : Bool} {lv va tg lk ky : Nat → Int32} {al : Nat → Bool} {Q : Int32 → Int32 → Bool → Int32 → (Nat → Int32) → (Nat → Int32) → (Nat → Int32) → (Nat → Int32) → (Nat → Int32) → (Nat → Bool) → Prop} (hn : n ≤ 200)
    (h : Q (nI (cnt al n)) 0 false (nI (cnt al n)) (kpF al lv n) (kpF al va n) (kpF al tg n) (kpF al lk n) (kpF al ky n) (kpT al n)) : call_X3_merge dp w (nI n) lv va tg lk ky al Q :=
  sp_keepLiving hn (by decide) h
theorem sp_count {n o d : Nat} {k : Int32} {lv : Nat → Int32} {al : Nat → Bool} {Q : Int32 → Prop} (hn : n ≤ 200)
    (h : Q (if k = 0 then nI n else if k = 1 then nI (cnt (fun i => al i && decide (¬ lv i < 0)) n) else if k = 2 then nI (cnt (fun i => al i && decide (¬ lv i < 2)) n) else if k = 3 then nI o else if k = 4 then nI d else -2)) : call_X3_count k (nI d) (nI o) (nI n) lv al Q := by
  refine ⟨fun c => ?_, fun c => sp_countLiving hn (by decide) ?_, fun c => sp_countLiving hn (by decide) ?_, fun c => ?_, fun c => ?_, fun c0 c1 c2 c3 c4 => ?_⟩
  · subst c; exact h
  · subst c; exact h
  · subst c; exact h
  · subst c; exact h
  · subst c; exact h
  · rw [if_neg c0, if_neg c1, if_neg c2, if_neg c3, if_neg c4] at h; exact h
/-- what is told of an object -/
def obj (k : Int32) (n i : Nat) (lv va tg lk ky : Nat → Int32) (al : Nat → Bool) : Int32 := if k = 0 then lv i else if k = 1 then va i else if k = 2 then tg i else if k = 3 then lk i else if k = 4 then (if lv i = 2 then ky i else -3) else if k = 5 then (if lv i = 2 then -3 else orM (ffr (fun j => decide (¬ lv j ≤ lv i)) (n - (i + 1)) (i + 1)) n) else if k = 6 then b2i (al i) else if k = 7 then nI (i - fb lv i) else -2
theorem sp_object {n : Nat} {p k : Int32} {lv va tg lk ky : Nat → Int32} {al : Nat → Bool} {Q : Int32 → Prop} (hn : n ≤ 200) (hf : (∀ j, j < n → ¬ p = nI j) → Q (-1)) (h : ∀ j, j < n → p = nI j → Q (obj k n j lv va tg lk ky al)) : call_X3_object p k (nI n) lv va tg lk ky al Q := by
  intro X125 X150 X168 h125 h150 h168
  refine sp_holds (by omega) (fun j hj e => ⟨fun _ => ?_, fun z => absurd z (by decide)⟩) (fun q => ⟨fun z => absurd z (by decide), fun _ => hf q⟩)
  have hq := h j hj e
  subst e
  have j2 : j < 200 := by omega
  refine ⟨fun c => ⟨j, j2, rfl, ?_⟩, fun c => ⟨j, j2, rfl, ?_⟩, fun c => ⟨j, j2, rfl, ?_⟩, fun c => ⟨j, j2, rfl, ?_⟩, fun c => sp_isRoot j2 ⟨fun c2 => h125 _ ?_, fun c2 => ⟨j, j2, rfl, h125 _ ?_⟩⟩, fun c => sp_isRoot j2 ⟨fun c2 => sp_parentOf hj hn (by decide) (h150 _ ?_), fun c2 => h150 _ ?_⟩, fun c => ⟨j, j2, rfl, fun c2 => h168 _ ?_, fun c2 => h168 _ ?_⟩, fun c => sp_firstBelow j2 (by decide) ?_, fun c0 c1 c2 c3 c4 c5 c6 c7 => ?_⟩
  · subst c; exact hq
  · subst c; exact hq
  · subst c; exact hq
  · subst c; exact hq
  · subst c; simp only [decide_eq_false_iff_not] at c2
    have hq : Q (if lv j = 2 then ky j else -3) := hq
    rw [if_neg c2] at hq; exact hq
  · subst c; simp only [decide_eq_true_eq] at c2
    have hq : Q (if lv j = 2 then ky j else -3) := hq
    rw [if_pos c2] at hq; exact hq
  · subst c; simp only [decide_eq_false_iff_not] at c2
    have hq : Q (if lv j = 2 then -3 else orM (ffr (fun i => decide (¬ lv i ≤ lv j)) (n - (j + 1)) (j + 1)) n) := hq
    rw [if_neg c2] at hq; exact hq
  · subst c; simp only [decide_eq_true_eq] at c2
    have hq : Q (if lv j = 2 then -3 else orM (ffr (fun i => decide (¬ lv i ≤ lv j)) (n - (j + 1)) (j + 1)) n) := hq
    rw [if_pos c2] at hq; exact hq
  · subst c
    have hq : Q (b2i (al j)) := hq
    rw [c2] at hq; exact hq
  · subst c
    have hq : Q (b2i (al j)) := hq
    rw [c2] at hq; exact hq
  · subst c
    rw [pk_sub (fb_le lv j)]; exact hq
  · unfold obj at hq
    rw [if_neg c0, if_neg c1, if_neg c2, if_neg c3, if_neg c4, if_neg c5, if_neg c6, if_neg c7] at hq; exact hq
theorem sp_close {n o : Nat} {key v t k dp : Int32} {w : Bool} {olv ova otg olk oky lv va tg lk ky : Nat → Int32} {al : Nat → Bool} {Q : Int32 → Int32 → Bool → Int32 → Int32 → (Nat → Int32) → (Nat → Int32) → (Nat → Int32) → (Nat → Int32) → (Nat → Int32) → (Nat → Bool) → Prop} (hn : n ≤ 200) (ho : o ≤ 60)
    (h2 : (wB key 0 999 && told v t k) = false → Q (-2) dp w (nI o) (nI n) lv va tg lk ky al)
    (h4 : (wB key 0 999 && told v t k) = true → 200 < n + o + 1 → Q (-4) dp w (nI o) (nI n) lv va tg lk ky al)
    (h : (wB key 0 999 && told v t k) = true → n + o + 1 ≤ 200 → ∀ (dp' : Int32) (w' : Bool) (al' : Nat → Bool), ((n ≤ ffr (lrP al lv ky key) n 0 ∧ dp' = dp ∧ w' = w ∧ al' = al) ∨ (∃ u, u = ffr (lrP al lv ky key) n 0 ∧ u < n ∧ dp' = 0 ∧ w' = false ∧ al' = kil al (fb lv u) (u + 1))) →
      Q (nI (n + o)) dp' w' 0 (nI (n + o + 1)) (va_up (apd lv n o olv) (n + o) 2) (va_up (apd va n o ova) (n + o) v) (va_up (apd tg n o otg) (n + o) t) (va_up (apd lk n o olk) (n + o) k) (va_up (apd ky n o oky) (n + o) key) (va_up (apd al' n o (fun _ => true)) (n + o) true)) : call_X3_close key v t k dp w (nI o) olv ova otg olk oky (nI n) lv va tg lk ky al Q := by
  intro X17 X76 h17 h76
  refine sp_isKey ⟨fun c => h17 _ _ _ _ _ _ _ _ _ _ (h2 (by simp [c])), fun c => sp_areTold ⟨fun c1 => ⟨fun c2 => ?_, fun c2 => h4 (by simp [c, c1]) ?_⟩, fun c1 => h17 _ _ _ _ _ _ _ _ _ _ (h2 (by simp [c1]))⟩⟩
  · rw [nI_add, nI_1, nI200, nI_leI (by omega) (by decide)] at c2
    have hh := h (by simp [c, c1]) c2
    have go : ∀ (dp' : Int32) (w' : Bool) (al' : Nat → Bool), ((n ≤ ffr (lrP al lv ky key) n 0 ∧ dp' = dp ∧ w' = w ∧ al' = al) ∨ (∃ u, u = ffr (lrP al lv ky key) n 0 ∧ u < n ∧ dp' = 0 ∧ w' = false ∧ al' = kil al (fb lv u) (u + 1))) → X76 dp' w' (nI o) (nI n) lv va tg lk ky al' := by
      intro dp' w' al' hc
      refine h76 _ _ _ _ _ _ _ _ _ _ (sp_appendAll (by omega) ho (by decide) (sp_append (by omega) ?_))
      rw [nI_pred]; exact hh dp' w' al' hc
    refine sp_livingRoot hn (by decide) ⟨fun q => go _ _ _ (Or.inl ⟨?_, rfl, rfl, rfl⟩), fun q => ?_⟩
    · rcases Nat.lt_or_ge (ffr (lrP al lv ky key) n 0) n with z | z
      · rw [orM_lt z] at q; exact absurd q.symm (m1_nI (by omega))
      · exact z
    · rcases Nat.lt_or_ge (ffr (lrP al lv ky key) n 0) n with z | z
      · rw [orM_lt z]
        exact sp_killBlock (by omega) (by decide) (go _ _ _ (Or.inr ⟨_, rfl, z, rfl, rfl, rfl⟩))
      · exact absurd (orM_ge z) q
  · rw [nI_add, nI_1, nI200, nI_leI (by omega) (by decide)] at c2; omega
