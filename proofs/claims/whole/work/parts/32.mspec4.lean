theorem ix1600 (i : Nat) : (1600 : Int32) + nI i = nI (1600 + i) := by rw [show (1600 : Int32) = nI 1600 from rfl, nI_add]
theorem blw_iff {lv : Nat → Int32} {mem : Nat → Bool} {u i : Nat} : blw lv mem u i = (mem i && isBb lv i u) := by
  unfold blw isBb
  cases mem i <;> cases decide (fb lv u ≤ i) <;> cases decide (i < u) <;> rfl
set_option maxHeartbeats 1000000 in
theorem mp_up {d n : Nat} {lev r thr : Int32} {hf : Bool} {lv : Nat → Int32} {inn was : Nat → Bool} {sc had : Nat → Int64} {Q : Int32 → Int32 → Bool → (Nat → Bool) → (Nat → Int64) → (Nat → Bool) → (Nat → Int64) → Prop} (hw : wfL lv n) (hn : n ≤ 200) (hd : d ≤ 8)
    (h2 : (wB lev 1 2 && wB r 0 4) = false → Q (-2) 0 hf inn sc was had) (h3 : (wB lev 1 2 && wB r 0 4) = true → d = 0 → Q (-3) 0 hf inn sc was had)
    (h : (wB lev 1 2 && wB r 0 4) = true → 1 ≤ d → ∀ (in' : Nat → Bool) (sc' : Nat → Int64) (was' : Nat → Bool) (had' : Nat → Int64), (∀ i, i < n → in' (1600 + i) = inn (200 * (d - 1) + i) ∧ sc' (1600 + i) = sc (200 * (d - 1) + i)) → (∀ i, i < n → in' (200 * (d - 1) + i) = (decide (lv i = lev) && decide (0 < cnt (blw lv (fun j => inn (200 * (d - 1) + j)) i) n))) → (∀ i, i < n → in' (200 * (d - 1) + i) = true → sc' (200 * (d - 1) + i) = valF r (blw lv (fun j => inn (200 * (d - 1) + j)) i) (fun j => sc (200 * (d - 1) + j)) n) → (∀ x, (x < 200 * (d - 1) ∨ 200 * (d - 1) + n ≤ x) → (x < 1600 ∨ 1600 + n ≤ x) → in' x = inn x ∧ sc' x = sc x) → Q (nI (cnt (fun i => in' (200 * (d - 1) + i)) n)) 0 true in' sc' was' had') : call_X4_up lev r thr (nI n) (nI d) hf lv inn sc was had Q := by
  intro X23 X47 X107 X145 X205 X217 X237 X249 X254 X329 X330 h23 h47 h107 h145 h205 h217 h237 h249 h254 h329 h330
  refine mp_isIn ⟨fun c => h23 _ _ _ _ _ _ (h2 (by simp [c])), fun c => mp_isIn ⟨fun cr => ⟨fun c2 => ?_, fun c2 => h3 (by simp [c, cr]) ?_⟩, fun cr => h23 _ _ _ _ _ _ (h2 (by simp [cr]))⟩⟩
  · rw [nI_ne0' hd] at c2
    have hh := h (by simp [c, cr]) c2
    refine mp_takeLast hn hd c2 (fun in1 sc1 was1 had1 hG hO => ?_)
    generalize hs : 200 * (d - 1) = S at *
    have hS : S ≤ 1400 := by omega
    have hwas : ∀ i, i < n → was1 i = inn (S + i) := fun i hi => (hG i hi).2.2.1
    have hhad : ∀ i, i < n → had1 i = sc (S + i) := fun i hi => (hG i hi).2.2.2
    -- the second stage
    have U : ∀ (in2 : Nat → Bool) (sc2 : Nat → Int64), (∀ x, (x < 1600 ∨ 1600 + n ≤ x) → in2 x = in1 x ∧ sc2 x = sc1 x) → (∀ i, i < n → in2 (1600 + i) = inn (S + i) ∧ sc2 (1600 + i) = sc (S + i)) → X107 (nI S) 0 0 true in2 sc2 was1 had1 := by
      intro in2 sc2 hO2 hF
      have L : ∀ e p (i1 : Nat → Bool) (c1 : Nat → Int64), p + e = n → (∀ i, i < p → i1 (S + i) = (decide (lv i = lev) && decide (0 < cnt (blw lv (fun j => inn (S + j)) i) n))) → (∀ i, i < p → i1 (S + i) = true → c1 (S + i) = valF r (blw lv (fun j => inn (S + j)) i) (fun j => sc (S + j)) n) → (∀ x, (x < S ∨ S + p ≤ x) → i1 x = in2 x ∧ c1 x = sc2 x) → X107 (nI S) (nI p) 0 true i1 c1 was1 had1 := by
        intro e
        induction e with
        | zero =>
          intro p i1 c1 hp g1 g2 g3
          obtain rfl : p = n := by omega
          refine h107 _ _ _ _ _ _ _ _ ⟨fun _ => ?_, fun q => absurd (nI_le (Nat.le_refl p) (by omega)) q⟩
          rw [nIm1 c2]
          refine mp_sizeOf (by omega) hn ?_
          rw [hs]
          refine hh i1 c1 was1 had1 (fun i hi => ?_) g1 g2 (fun x hx1 hx2 => ?_)
          · have a := g3 (1600 + i) (Or.inr (by omega))
            have b := hF i hi
            exact ⟨a.1.trans b.1, a.2.trans b.2⟩
          · have a := g3 x hx1
            have b := hO2 x hx2
            have e := hO x hx1
            exact ⟨a.1.trans (b.1.trans e.1), a.2.trans (b.2.trans e.2)⟩
        | succ e ih =>
          intro p i1 c1 hp g1 g2 g3
          have cur : i1 (S + p) = false := by
            rw [(g3 (S + p) (Or.inr (Nat.le_refl _))).1, (hO2 (S + p) (Or.inl (by omega))).1]; exact (hG p (by omega)).1
          have skip : (decide (lv p = lev) && decide (0 < cnt (blw lv (fun j => inn (S + j)) p) n)) = false → X330 (nI S) (nI p) 0 true i1 c1 was1 had1 := fun q => by
            refine h330 _ _ _ _ _ _ _ _ ?_
            rw [nI_1]
            refine ih (p + 1) i1 c1 (by omega) (fun i hi => ?_) (fun i hi z => ?_) (fun x hx => g3 x (by omega))
            · by_cases y : i = p
              · rw [y, cur, q]
              · exact g1 i (by omega)
            · by_cases y : i = p
              · rw [y, cur] at z; exact absurd z (by decide)
              · exact g2 i (by omega) z
          refine h107 _ _ _ _ _ _ _ _ ⟨fun q => absurd q (nI_ge (by omega) (by omega)), fun _ => ⟨p, by omega, rfl, fun q => ?_, fun q => skip (by simp [q])⟩⟩
          generalize hB : blw lv (fun j => inn (S + j)) p = B at *
          generalize hH : (fun j => sc (S + j)) = H at *
          have hHa : ∀ i, i < n → had1 i = H i := fun i hi => by rw [← hH]; exact hhad i hi
          have M : ∀ e2 i, i + e2 = n → X145 (nI S) (nI p) (sumF B H i) (mostF B H i) (leastF B H i) (nI (cnt B i)) (nI i) 0 true i1 c1 was1 had1 := by
            intro e2
            induction e2 with
            | zero =>
              intro i hi
              obtain rfl : i = n := by omega
              have hcB := cnt_le B i
              refine h145 _ _ _ _ _ _ _ _ _ _ _ _ _ ⟨fun _ => ⟨fun z => skip ?_, fun z => ?_⟩, fun z => absurd (nI_le (Nat.le_refl i) (by omega)) z⟩
              · rw [z_nI, nI_leI (by omega) (by decide)] at z
                have : cnt B i = 0 := by omega
                simp [this]
              · rw [z_nI, nI_leI (by omega) (by decide)] at z
                have fin : ∀ v : Int64, v = valF r B H i → X329 (nI S) (nI p) v (nI S + nI p) 0 true (va_up i1 (S + p) true) c1 was1 had1 := by
                  intro v hv
                  refine h329 _ _ _ _ _ _ _ _ _ _ ⟨S + p, by omega, nI_add S p, h330 _ _ _ _ _ _ _ _ ?_⟩
                  rw [nI_1]
                  refine ih (p + 1) _ _ (by omega) (fun j hj => ?_) (fun j hj y => ?_) (fun x hx => ?_)
                  · by_cases y : j = p
                    · rw [y, uu_s, hB, q]; simp; omega
                    · rw [up_in y]; exact g1 j (by omega)
                  · by_cases y2 : j = p
                    · rw [y2, uu_s, hB]; exact hv
                    · rw [up_in y2] at y ⊢; exact g2 j (by omega) y
                  · rw [uu_n (by omega), uu_n (by omega)]; exact g3 x (by omega)
                have hne : ¬ (nI (cnt B i)).toInt64 = 0 := by
                  rw [nI_l (by omega), show (0 : Int64) = lN 0 from rfl, lN_eq (by omega) (by decide)]; omega
                have hr := wB04.mp cr
                refine ⟨S + p, by omega, nI_add S p, fun r0 => ⟨fun r1 => ⟨fun r2 => ⟨fun r3 => ⟨hne, fin _ ?_⟩, fun r3 => fin _ ?_⟩, fun r2 => fin _ ?_⟩, fun r1 => fin _ ?_⟩, fun r0 => fin _ ?_⟩
                · have r4 : r = 4 := by rcases hr with y | y | y | y | y <;> first | exact y | exact absurd y ‹_›
                  subst r4; rw [nI_l (by omega)]; rfl
                · subst r3; rw [nI_l (by omega)]; rfl
                · subst r2; rfl
                · subst r1; rfl
                · subst r0; rfl
            | succ e2 ih2 =>
              intro i hi
              have that := ih2 (i + 1) (by omega)
              have hcB := cnt_le B i
              have no : B i = false → X254 (nI S) (nI p) (sumF B H i) (mostF B H i) (leastF B H i) (nI (cnt B i)) (nI i) 0 true i1 c1 was1 had1 := fun z => by
                refine h254 _ _ _ _ _ _ _ _ _ _ _ _ _ ?_
                simp only [sumF, mostF, leastF, cnt, z] at that
                rw [nI_1]; exact that
              have hBi : B i = (was1 i && isBb lv i p) := by rw [← hB, blw_iff, hwas i (by omega)]
              refine h145 _ _ _ _ _ _ _ _ _ _ _ _ _ ⟨fun z => absurd z (nI_ge (by omega) (by omega)), fun _ => ⟨i, by omega, rfl, fun z => no (by rw [hBi, z]; rfl), fun z => mp_isAbove hw hn (by omega) (by omega) ⟨fun y => no (by rw [hBi, z, y]; rfl), fun y => ⟨i, by omega, rfl, ?_⟩⟩⟩⟩
              have hBt : B i = true := by rw [hBi, z, y]; rfl
              have hz : nI (cnt B i) = 0 ↔ cnt B i = 0 := by rw [z_nI, nI_eq (by omega) (by decide)]
              rw [hHa i (by omega)]
              -- the least
              have lea : X217 (nI S) (nI p) (sumF B H i + H i) (leastF B H i) (nI (cnt B i)) (nI i) (mostF B H (i + 1)) 0 true i1 c1 was1 had1 := by
                have fin : X249 (nI S) (nI p) (sumF B H i + H i) (mostF B H (i + 1)) (nI (cnt B i)) (nI i) (leastF B H (i + 1)) 0 true i1 c1 was1 had1 := by
                  refine h249 _ _ _ _ _ _ _ _ _ _ _ _ _ (h254 _ _ _ _ _ _ _ _ _ _ _ _ _ ?_)
                  have e1 : sumF B H (i + 1) = sumF B H i + H i := by simp only [sumF]; rw [if_pos hBt]
                  have e2 : cnt B (i + 1) = cnt B i + 1 := by simp only [cnt]; rw [if_pos hBt]
                  rw [e1, e2] at that
                  rw [nI_1, nI_1]; exact that
                refine h217 _ _ _ _ _ _ _ _ _ _ _ _ _ ⟨fun w => h237 _ _ _ _ _ _ _ _ _ _ _ _ ⟨i, by omega, rfl, ?_⟩, fun w => ⟨i, by omega, rfl, fun w2 => ?_, fun w2 => h237 _ _ _ _ _ _ _ _ _ _ _ _ ⟨i, by omega, rfl, ?_⟩⟩⟩
                · have e3 : leastF B H (i + 1) = H i := by simp only [leastF]; rw [if_pos hBt, if_pos (hz.mp w)]
                  rw [hHa i (by omega)]; have f := fin; rw [e3] at f; exact f
                · rw [hHa i (by omega)] at w2
                  have e3 : leastF B H (i + 1) = leastF B H i := by
                    simp only [leastF]; rw [if_pos hBt, if_neg (fun v => w (hz.mpr v)), if_neg]
                    intro v; rw [i64_lt] at v; rw [Int64.le_iff_toInt_le] at w2; omega
                  rw [← e3]; exact fin
                · rw [hHa i (by omega)] at w2
                  have e3 : leastF B H (i + 1) = H i := by
                    simp only [leastF]; rw [if_pos hBt, if_neg (fun v => w (hz.mpr v)), if_pos]
                    rw [i64_lt]; rw [Int64.le_iff_toInt_le] at w2; omega
                  rw [hHa i (by omega)]; have f := fin; rw [e3] at f; exact f
              refine ⟨fun w => h205 _ _ _ _ _ _ _ _ _ _ _ _ ⟨i, by omega, rfl, ?_⟩, fun w => ⟨i, by omega, rfl, fun w2 => ?_, fun w2 => h205 _ _ _ _ _ _ _ _ _ _ _ _ ⟨i, by omega, rfl, ?_⟩⟩⟩
              · have e3 : mostF B H (i + 1) = H i := by simp only [mostF]; rw [if_pos hBt, if_pos (hz.mp w)]
                rw [hHa i (by omega)]; have f := lea; rw [e3] at f; exact f
              · rw [hHa i (by omega)] at w2
                have e3 : mostF B H (i + 1) = mostF B H i := by
                  simp only [mostF]; rw [if_pos hBt, if_neg (fun v => w (hz.mpr v)), if_neg]
                  intro v; rw [i64_lt] at v; rw [Int64.le_iff_toInt_le] at w2; omega
                rw [← e3]; exact lea
              · rw [hHa i (by omega)] at w2
                have e3 : mostF B H (i + 1) = H i := by
                  simp only [mostF]; rw [if_pos hBt, if_neg (fun v => w (hz.mpr v)), if_pos]
                  rw [i64_lt]; rw [Int64.le_iff_toInt_le] at w2; omega
                rw [hHa i (by omega)]; have f := lea; rw [e3] at f; exact f
          exact M n 0 (by omega)
      exact L n 0 in2 sc2 (by omega) (fun i hi => by omega) (fun i hi => by omega) (fun x _ => ⟨rfl, rfl⟩)
    -- the family is kept
    have K : ∀ e i (i1 : Nat → Bool) (c1 : Nat → Int64), i + e = n → (∀ j, j < i → i1 (1600 + j) = inn (S + j) ∧ c1 (1600 + j) = sc (S + j)) → (∀ x, (x < 1600 ∨ 1600 + i ≤ x) → i1 x = in1 x ∧ c1 x = sc1 x) → X47 (nI i) 0 true i1 c1 was1 had1 := by
      intro e
      induction e with
      | zero =>
        intro i i1 c1 hi g1 g3
        obtain rfl : i = n := by omega
        refine h47 _ _ _ _ _ _ _ ⟨fun _ => ?_, fun q => absurd (nI_le (Nat.le_refl i) (by omega)) q⟩
        rw [nIm1 c2, nI200, pk_mul, hs]
        exact U i1 c1 g3 g1
      | succ e ih =>
        intro i i1 c1 hi g1 g3
        refine h47 _ _ _ _ _ _ _ ⟨fun q => absurd q (nI_ge (by omega) (by omega)), fun _ => ⟨i, by omega, rfl, 1600 + i, by omega, ix1600 i, i, by omega, rfl, 1600 + i, by omega, ix1600 i, ?_⟩⟩
        rw [nI_1]
        refine ih (i + 1) _ _ (by omega) (fun j hj => ?_) (fun x hx => ?_)
        · by_cases z : j = i
          · rw [z, uu_s, uu_s]; exact ⟨hwas i (by omega), hhad i (by omega)⟩
          · rw [up_in z, up_in z]; exact g1 j (by omega)
        · rw [uu_n (by omega), uu_n (by omega)]; exact g3 x (by omega)
    exact K n 0 in1 sc1 (by omega) (fun j hj => by omega) (fun x _ => ⟨rfl, rfl⟩)
  · rw [z_nI, nI_eq (by omega) (by decide)] at c2; exact c2
