theorem wB01 {k : Int32} (h : wB k 0 1 = true) : ¬ k = 2 := by
  intro e; subst e; exact absurd h (by decide)
theorem cnt_mono1 {P : Nat → Bool} {a b : Nat} (h : a ≤ b) (hz : ∀ q, a ≤ q → q < b → P q = false) : cnt P b = cnt P a := cnt_ext h hz
set_option maxHeartbeats 1000000 in
theorem mp_down {d n : Nat} {lev thr : Int32} {lv : Nat → Int32} {inn was : Nat → Bool} {sc had : Nat → Int64} {Q : Int32 → Int32 → (Nat → Bool) → (Nat → Int64) → (Nat → Bool) → (Nat → Int64) → Prop} (hw : wfL lv n) (hn : n ≤ 200) (hd : d ≤ 8)
    (h2 : wB lev 0 1 = false → Q (-2) 0 inn sc was had) (h3 : wB lev 0 1 = true → d = 0 → Q (-3) 0 inn sc was had)
    (h : wB lev 0 1 = true → 1 ≤ d → ∀ (in' : Nat → Bool) (sc' : Nat → Int64) (was' : Nat → Bool) (had' : Nat → Int64), (∀ i, i < n → in' (200 * (d - 1) + i) = (decide (lv i = lev) && decide (0 < cnt (abv lv (fun j => inn (200 * (d - 1) + j)) i) n))) → (∀ i, i < n → in' (200 * (d - 1) + i) = true → sc' (200 * (d - 1) + i) = sumF (abv lv (fun j => inn (200 * (d - 1) + j)) i) (fun j => sc (200 * (d - 1) + j)) n) → (∀ x, (x < 200 * (d - 1) ∨ 200 * (d - 1) + n ≤ x) → in' x = inn x ∧ sc' x = sc x) → Q (nI (cnt (fun i => in' (200 * (d - 1) + i)) n)) 0 in' sc' was' had') : call_X4_down lev thr (nI n) (nI d) lv inn sc was had Q := by
  intro X44 X59 X111 X122 h44 h59 h111 h122
  refine mp_isIn ⟨fun c => ⟨fun c2 => ?_, fun c2 => h3 c ?_⟩, fun c => h2 c⟩
  · rw [nI_ne0' hd] at c2
    have hh := h c c2
    refine mp_takeLast hn hd c2 (fun in1 sc1 was1 had1 hG hO => ?_)
    rw [nIm1 c2, nI200, pk_mul]
    generalize hs : 200 * (d - 1) = S at *
    have hS : S ≤ 1400 := by omega
    have hwas : ∀ i, i < n → was1 i = inn (S + i) := fun i hi => (hG i hi).2.2.1
    have hhad : ∀ i, i < n → had1 i = sc (S + i) := fun i hi => (hG i hi).2.2.2
    have L : ∀ e i (i1 : Nat → Bool) (s1 : Nat → Int64), i + e = n → (∀ j, j < i → i1 (S + j) = (decide (lv j = lev) && decide (0 < cnt (abv lv (fun j => inn (S + j)) j) n))) → (∀ j, j < i → i1 (S + j) = true → s1 (S + j) = sumF (abv lv (fun j => inn (S + j)) j) (fun j => sc (S + j)) n) → (∀ x, (x < S ∨ S + i ≤ x) → i1 x = in1 x ∧ s1 x = sc1 x) → X44 (nI S) (nI i) 0 i1 s1 was1 had1 := by
      intro e
      induction e with
      | zero =>
        intro i i1 s1 hi g1 g2 g3
        obtain rfl : i = n := by omega
        refine h44 _ _ _ _ _ _ _ ⟨fun _ => ?_, fun q => absurd (nI_le (Nat.le_refl i) (by omega)) q⟩
        rw [nIm1 c2]
        refine mp_sizeOf (by omega) hn ?_
        rw [hs]
        refine hh i1 s1 was1 had1 g1 g2 (fun x hx => ?_)
        have a := g3 x hx
        have b := hO x hx
        exact ⟨a.1.trans b.1, a.2.trans b.2⟩
      | succ e ih =>
        intro i i1 s1 hi g1 g2 g3
        generalize hB : abv lv (fun j => inn (S + j)) i = B at *
        generalize hH : (fun j => sc (S + j)) = H at *
        have hBp : ∀ p, B p = (inn (S + p) && isBb lv i p) := fun p => by rw [← hB]; rfl
        have nB : ∀ p, ¬ isB lv i p → B p = false := fun p z => by
          rw [hBp p, show isBb lv i p = false from by rw [← Bool.not_eq_true, isBb_iff]; exact z, Bool.and_false]
        -- the end of an object's walk
        have fin : ∀ (i2 : Nat → Bool) (s2 : Nat → Int64), (∀ x, x ≠ S + i → i2 x = i1 x ∧ s2 x = s1 x) → i2 (S + i) = (decide (lv i = lev) && decide (0 < cnt B n)) → (i2 (S + i) = true → s2 (S + i) = sumF B H n) → X122 (nI S) (nI i) 0 i2 s2 was1 had1 := by
          intro i2 s2 k1 k2 k3
          refine h122 _ _ _ _ _ _ _ ?_
          rw [nI_1]
          refine ih (i + 1) i2 s2 (by omega) (fun j hj => ?_) (fun j hj z => ?_) (fun x hx => ?_)
          · by_cases y : j = i
            · rw [y, hB]; exact k2
            · rw [(k1 (S + j) (by omega)).1]; exact g1 j (by omega)
          · by_cases y : j = i
            · rw [y] at z ⊢; rw [hB]; exact k3 z
            · rw [(k1 (S + j) (by omega)).1] at z; rw [(k1 (S + j) (by omega)).2]; exact g2 j (by omega) z
          · have a := k1 x (by omega)
            have b := g3 x (by omega)
            exact ⟨a.1.trans b.1, a.2.trans b.2⟩
        have cur0 : i1 (S + i) = false := by rw [(g3 (S + i) (Or.inr (Nat.le_refl _))).1]; exact (hG i (by omega)).1
        have cur1 : s1 (S + i) = 0 := by rw [(g3 (S + i) (Or.inr (Nat.le_refl _))).2]; exact (hG i (by omega)).2.1
        have m3 : (-3 : Int32) < 0 := by decide
        have top : ∀ k, k < n → lv k = 2 → i ≤ k → ∀ q, k + 1 ≤ q → q < n → B q = false := fun k hk e1 e2 q y1 y2 => nB q (isB_top hw y2 e1 e2 (by omega))
        -- the chain
        have M : ∀ e2 k (i2 : Nat → Bool) (s2 : Nat → Int64), k + e2 = n → k < n → isB lv i k → lv i = lev → (∀ x, x ≠ S + i → i2 x = i1 x ∧ s2 x = s1 x) → i2 (S + i) = decide (0 < cnt B k) → s2 (S + i) = sumF B H k → X59 (nI S) (nI i) (nI k) 0 i2 s2 was1 had1 := by
          intro e2
          induction e2 using Nat.strongRecOn with
          | ind e2 ih2 =>
            intro k i2 s2 hk hkn hb hl k1 k2 k3
            -- after k
            have nxt : ∀ (i3 : Nat → Bool) (s3 : Nat → Int64), (∀ x, x ≠ S + i → i3 x = i1 x ∧ s3 x = s1 x) → i3 (S + i) = decide (0 < cnt B (k + 1)) → s3 (S + i) = sumF B H (k + 1) → X111 (nI S) (nI i) (nI k) 0 i3 s3 was1 had1 := by
              intro i3 s3 t1 t2 t3
              refine h111 _ _ _ _ _ _ _ _ (mp_parent hw hn hkn (fun q => ?_) (fun q => ?_))
              · refine h59 _ _ _ _ _ _ _ _ ⟨fun _ => fin i3 s3 t1 ?_ (fun _ => ?_), fun z => absurd m3 z⟩
                · rw [t2, cnt_ext (show k + 1 ≤ n by omega) (top k hkn q (Nat.le_of_lt hb.1)), hl]; simp
                · rw [t3, sumF_ext (show k + 1 ≤ n by omega) (top k hkn q (Nat.le_of_lt hb.1))]
              · obtain ⟨p1, p2, p3, p4⟩ := prn_lt hw hkn q
                have gap : ∀ z, k + 1 ≤ z → z < prn lv n k → B z = false := fun z y1 y2 => nB z (fun y3 => by have := isB_next hw hkn q (Nat.le_of_lt hb.1) (by omega) y3; omega)
                refine ih2 (n - prn lv n k) (by omega) _ i3 s3 (by omega) p1 (isB_par hw hkn q (Nat.le_of_lt hb.1) hb.2) hl t1 ?_ ?_
                · rw [t2, cnt_ext (show k + 1 ≤ prn lv n k by omega) gap]
                · rw [t3, sumF_ext (show k + 1 ≤ prn lv n k by omega) gap]
            have hBk : B k = inn (S + k) := by rw [hBp k, isBb_iff.mpr hb, Bool.and_true]
            refine h59 _ _ _ _ _ _ _ _ ⟨fun z => absurd z (nI_pos (by omega)), fun _ => ⟨i, by omega, rfl, fun z => absurd hl z, fun _ => ⟨k, by omega, rfl, fun z => nxt i2 s2 k1 ?_ ?_, fun z => ⟨S + i, by omega, nI_add S i, S + i, by omega, nI_add S i, k, by omega, rfl, S + i, by omega, nI_add S i, nxt _ _ (fun x hx => ?_) ?_ ?_⟩⟩⟩⟩
            · rw [hwas k hkn, ← hBk] at z
              simp only [cnt, z]; rw [k2]; rfl
            · rw [hwas k hkn, ← hBk] at z
              simp only [sumF, z]; rw [k3]; rfl
            · rw [uu_n hx, uu_n hx]; exact k1 x hx
            · rw [hwas k hkn, ← hBk] at z
              rw [uu_s]; simp only [cnt, z]; simp
            · rw [hwas k hkn, ← hBk] at z
              rw [uu_s]; simp only [sumF, z]; rw [k3, hhad k hkn, ← hH]; rfl
        refine h44 _ _ _ _ _ _ _ ⟨fun q => absurd q (nI_ge (by omega) (by omega)), fun _ => mp_parent hw hn (by omega) (fun q => ?_) (fun q => ?_)⟩
        · refine h59 _ _ _ _ _ _ _ _ ⟨fun _ => fin i1 s1 (fun _ _ => ⟨rfl, rfl⟩) ?_ (fun z => ?_), fun z => absurd m3 z⟩
          · rw [cur0]
            have : ¬ lv i = lev := fun y => wB01 c (y.symm.trans q)
            simp [this]
          · rw [cur0] at z; exact absurd z (by decide)
        · obtain ⟨p1, p2, p3, p4⟩ := prn_lt hw (show i < n by omega) q
          have hb0 := isB_par hw (show i < n by omega) q (Nat.le_refl i) (fun j y1 y2 => by omega)
          by_cases hl : lv i = lev
          · have gap : ∀ z, 0 ≤ z → z < prn lv n i → B z = false := fun z _ y2 => nB z (fun y3 => by have := isB_next hw (show i < n by omega) q (Nat.le_refl i) y3.1 y3; omega)
            refine M (n - prn lv n i) _ i1 s1 (by omega) p1 hb0 hl (fun _ _ => ⟨rfl, rfl⟩) ?_ ?_
            · rw [cur0, cnt_ext (Nat.zero_le _) gap]; rfl
            · rw [cur1, sumF_ext (Nat.zero_le _) gap]; rfl
          · refine h59 _ _ _ _ _ _ _ _ ⟨fun z => absurd z (nI_pos (by omega)), fun _ => ⟨i, by omega, rfl, fun _ => fin i1 s1 (fun _ _ => ⟨rfl, rfl⟩) ?_ (fun z => ?_), fun z => absurd z hl⟩⟩
            · rw [cur0]; simp [hl]
            · rw [cur0] at z; exact absurd z (by decide)
    exact L n 0 in1 sc1 (by omega) (fun i hi => by omega) (fun i hi => by omega) (fun x _ => ⟨rfl, rfl⟩)
  · rw [z_nI, nI_eq (by omega) (by decide)] at c2; exact c2
set_option maxHeartbeats 1000000 in
theorem mp_over {d n : Nat} {thr : Int32} {lv lk ky : Nat → Int32} {al inn was : Nat → Bool} {sc had : Nat → Int64} {Q : Int32 → Int32 → (Nat → Bool) → (Nat → Int64) → (Nat → Bool) → (Nat → Int64) → Prop} (hn : n ≤ 200) (hd : d ≤ 8)
    (h3 : d = 0 → Q (-3) 0 inn sc was had)
    (h : 1 ≤ d → ∀ (in' : Nat → Bool) (sc' : Nat → Int64) (was' : Nat → Bool) (had' : Nat → Int64), (∀ i, i < n → in' (200 * (d - 1) + i) = decide (0 < cnt (lnk n lv ky lk al (fun j => inn (200 * (d - 1) + j)) i) n)) → (∀ i, i < n → in' (200 * (d - 1) + i) = true → sc' (200 * (d - 1) + i) = lastF (lnk n lv ky lk al (fun j => inn (200 * (d - 1) + j)) i) (fun j => sc (200 * (d - 1) + j)) n) → (∀ x, (x < 200 * (d - 1) ∨ 200 * (d - 1) + n ≤ x) → in' x = inn x ∧ sc' x = sc x) → Q (nI (cnt (fun i => in' (200 * (d - 1) + i)) n)) 0 in' sc' was' had') : call_X4_over thr (nI n) (nI d) lv lk ky al inn sc was had Q := by
  intro X32 X42 X116 X122 h32 h42 h116 h122
  refine ⟨fun c2 => ?_, fun c2 => h3 ?_⟩
  · rw [nI_ne0' hd] at c2
    have hh := h c2
    refine mp_takeLast hn hd c2 (fun in1 sc1 was1 had1 hG hO => ?_)
    rw [nIm1 c2, nI200, pk_mul]
    generalize hs : 200 * (d - 1) = S at *
    have hS : S ≤ 1400 := by omega
    have hwas : ∀ i, i < n → was1 i = inn (S + i) := fun i hi => (hG i hi).2.2.1
    have hhad : ∀ i, i < n → had1 i = sc (S + i) := fun i hi => (hG i hi).2.2.2
    generalize hB : (fun i => lnk n lv ky lk al (fun j => inn (S + j)) i) = B at *
    have hBe : ∀ i p, i < n → B i p = (inn (S + p) && (decide (lv p = 2) && (al i && decide (lk i = ky p)))) := fun i p hi => by
      rw [← hB]; simp only [lnk]; rw [decide_eq_true hi, Bool.true_and]
    have hh : ∀ (in' : Nat → Bool) (sc' : Nat → Int64) (was' : Nat → Bool) (had' : Nat → Int64), (∀ i, i < n → in' (S + i) = decide (0 < cnt (B i) n)) → (∀ i, i < n → in' (S + i) = true → sc' (S + i) = lastF (B i) (fun j => sc (S + j)) n) → (∀ x, (x < S ∨ S + n ≤ x) → in' x = inn x ∧ sc' x = sc x) → Q (nI (cnt (fun i => in' (S + i)) n)) 0 in' sc' was' had' := by
      intro a b e f t1 t2 t3
      exact hh a b e f (fun i hi => by rw [t1 i hi, ← hB]) (fun i hi z => by rw [t2 i hi z, ← hB]) t3
    generalize hH : (fun j => sc (S + j)) = H at *
    have L : ∀ e p (i1 : Nat → Bool) (s1 : Nat → Int64), p + e = n → (∀ j, j < n → i1 (S + j) = decide (0 < cnt (B j) p)) → (∀ j, j < n → i1 (S + j) = true → s1 (S + j) = lastF (B j) H p) → (∀ x, (x < S ∨ S + n ≤ x) → i1 x = inn x ∧ s1 x = sc x) → X32 (nI S) (nI p) 0 i1 s1 was1 had1 := by
      intro e
      induction e with
      | zero =>
        intro p i1 s1 hp g1 g2 g3
        obtain rfl : p = n := by omega
        refine h32 _ _ _ _ _ _ _ ⟨fun _ => ?_, fun q => absurd (nI_le (Nat.le_refl p) (by omega)) q⟩
        rw [nIm1 c2]
        refine mp_sizeOf (by omega) hn ?_
        rw [hs]
        exact hh i1 s1 was1 had1 g1 g2 g3
      | succ e ih =>
        intro p i1 s1 hp g1 g2 g3
        refine h32 _ _ _ _ _ _ _ ⟨fun q => absurd q (nI_ge (by omega) (by omega)), fun _ => ?_⟩
        have skip : (inn (S + p) && decide (lv p = 2)) = false → X122 (nI S) (nI p) 0 i1 s1 was1 had1 := fun q => by
          have hz : ∀ j, j < n → B j p = false := fun j hj => by rw [hBe j p hj, ← Bool.and_assoc, q, Bool.false_and]
          refine h122 _ _ _ _ _ _ _ ?_
          rw [nI_1]
          refine ih (p + 1) i1 s1 (by omega) (fun j hj => ?_) (fun j hj z => ?_) g3
          · simp only [cnt, hz j hj]; rw [g1 j hj]; rfl
          · simp only [lastF, hz j hj]; rw [g2 j hj z]; rfl
        by_cases hq : (inn (S + p) && decide (lv p = 2)) = true
        · have hq2 : inn (S + p) = true ∧ lv p = 2 := by simpa using hq
          have hBp : ∀ j, j < n → B j p = (al j && decide (lk j = ky p)) := fun j hj => by rw [hBe j p hj, ← Bool.and_assoc, hq, Bool.true_and]
          have M : ∀ e2 i (i2 : Nat → Bool) (s2 : Nat → Int64), i + e2 = n → (∀ j, j < i → i2 (S + j) = decide (0 < cnt (B j) (p + 1))) → (∀ j, j < i → i2 (S + j) = true → s2 (S + j) = lastF (B j) H (p + 1)) → (∀ x, (x < S ∨ S + i ≤ x) → i2 x = i1 x ∧ s2 x = s1 x) → X42 (nI S) (nI p) (nI i) 0 i2 s2 was1 had1 := by
            intro e2
            induction e2 with
            | zero =>
              intro i i2 s2 hi k1 k2 k3
              obtain rfl : i = n := by omega
              refine h42 _ _ _ _ _ _ _ _ ⟨fun _ => h122 _ _ _ _ _ _ _ ?_, fun q => absurd (nI_le (Nat.le_refl i) (by omega)) q⟩
              rw [nI_1]
              refine ih (p + 1) i2 s2 (by omega) k1 k2 (fun x hx => ?_)
              have a := k3 x hx
              have b := g3 x hx
              exact ⟨a.1.trans b.1, a.2.trans b.2⟩
            | succ e2 ih2 =>
              intro i i2 s2 hi k1 k2 k3
              have c0 := k3 (S + i) (Or.inr (Nat.le_refl _))
              have no : (al i && decide (lk i = ky p)) = false → X116 (nI S) (nI p) (nI i) 0 i2 s2 was1 had1 := fun q => by
                have hz : B i p = false := by rw [hBp i (by omega)]; exact q
                refine h116 _ _ _ _ _ _ _ _ ?_
                rw [nI_1]
                refine ih2 (i + 1) i2 s2 (by omega) (fun j hj => ?_) (fun j hj z => ?_) (fun x hx => k3 x (by omega))
                · by_cases y : j = i
                  · subst y; simp only [cnt, hz]; rw [c0.1, g1 j (by omega)]; rfl
                  · exact k1 j (by omega)
                · by_cases y : j = i
                  · subst y; rw [c0.1] at z; simp only [lastF, hz]; rw [c0.2, g2 j (by omega) z]; rfl
                  · exact k2 j (by omega) z
              refine h42 _ _ _ _ _ _ _ _ ⟨fun q => absurd q (nI_ge (by omega) (by omega)), fun _ => ⟨p, by omega, rfl, fun z => ?_, fun _ => ⟨p, by omega, rfl, fun z => absurd hq2.2 z, fun _ => ⟨i, by omega, rfl, fun z => no (by simp [z]), fun z => ⟨i, by omega, rfl, p, by omega, rfl, fun z2 => no (by simp [z2]), fun z2 => ⟨S + i, by omega, nI_add S i, p, by omega, rfl, S + i, by omega, nI_add S i, h116 _ _ _ _ _ _ _ _ ?_⟩⟩⟩⟩⟩⟩
              · rw [hwas p (by omega), hq2.1] at z; exact absurd z (by decide)
              · have hz : B i p = true := by rw [hBp i (by omega), z, z2]; simp
                rw [nI_1]
                refine ih2 (i + 1) _ _ (by omega) (fun j hj => ?_) (fun j hj y => ?_) (fun x hx => ?_)
                · by_cases y : j = i
                  · subst y; rw [uu_s]; simp only [cnt, hz]; simp
                  · rw [up_in y]; exact k1 j (by omega)
                · by_cases y2 : j = i
                  · subst y2; rw [uu_s]; simp only [lastF, hz]; rw [hhad p (by omega), ← hH]; rfl
                  · rw [up_in y2] at y ⊢; exact k2 j (by omega) y
                · rw [uu_n (by omega), uu_n (by omega)]; exact k3 x (by omega)
          exact M n 0 i1 s1 (by omega) (fun j hj => by omega) (fun j hj => by omega) (fun x _ => ⟨rfl, rfl⟩)
        · have hq : (inn (S + p) && decide (lv p = 2)) = false := by simpa using hq
          refine h42 _ _ _ _ _ _ _ _ ⟨fun _ => skip hq, fun _ => ⟨p, by omega, rfl, fun _ => skip hq, fun z => ⟨p, by omega, rfl, fun _ => skip hq, fun z2 => ?_⟩⟩⟩
          rw [hwas p (by omega)] at z
          rw [z, z2] at hq; exact absurd hq (by decide)
    refine L n 0 in1 sc1 (by omega) (fun j hj => ?_) (fun j hj z => ?_) hO
    · rw [(hG j hj).1]; rfl
    · rw [(hG j hj).1] at z; exact absurd z (by decide)
  · rw [z_nI, nI_eq (by omega) (by decide)] at c2; exact c2
