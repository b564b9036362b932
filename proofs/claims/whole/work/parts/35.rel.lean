/-! class and reference side by side -/
def RO (n : Nat) (lv va tg lk ky : Nat → Int32) (al : Nat → Bool) (mlv mva mtg mlk mky : Nat → Int32) (mal : Nat → Bool) : Prop :=
  n ≤ 200 ∧ (∀ i, i < n → lv i = mlv i ∧ va i = mva i ∧ tg i = mtg i ∧ lk i = mlk i ∧ al i = mal i ∧ (lv i = 2 → ky i = mky i)) ∧ wfL lv n ∧ (∀ i, i + 1 < n → ¬ lv i = 2 → al i = al (i + 1))
def RP (o : Nat) (olv ova otg olk op : Nat → Int32) : Prop := o ≤ 60 ∧ ∀ i, i < o → olv i = op (4 * i) ∧ ova i = op (4 * i + 1) ∧ otg i = op (4 * i + 2) ∧ olk i = op (4 * i + 3) ∧ (olv i = 0 ∨ olv i = 1)
def R1 (n : Nat) (m : Nat → Bool) (c : Nat → Int64) (s : Nat) (inn : Nat → Bool) (sc : Nat → Int64) : Prop := (∀ i, i < n → m i = inn (200 * s + i)) ∧ (∀ i, n ≤ i → i < 200 → m i = false) ∧ (∀ i, i < n → m i = true → c i = sc (200 * s + i))
def RS (n d : Nat) (sm : Nat → Nat → Bool) (ss : Nat → Nat → Int64) (inn : Nat → Bool) (sc : Nat → Int64) : Prop := d ≤ 8 ∧ ∀ k, k < d → R1 n (sm k) (ss k) k inn sc
def RF (n : Nat) (w : Bool) (km : Nat → Bool) (ks : Nat → Int64) (inn : Nat → Bool) (sc : Nat → Int64) : Prop := w = true → R1 n km ks 8 inn sc
/-- the sizes of the sets -/
def RZ (sz : Nat → Int32) (sm : Nat → Nat → Bool) : Prop := ∀ k, k < 8 → sz k = nI (cnt (sm k) 200)
theorem R1.keep {n s : Nat} {m : Nat → Bool} {c : Nat → Int64} {inn in' : Nat → Bool} {sc sc' : Nat → Int64} (h : R1 n m c s inn sc) (e : ∀ i, i < n → in' (200 * s + i) = inn (200 * s + i) ∧ sc' (200 * s + i) = sc (200 * s + i)) : R1 n m c s in' sc' :=
  ⟨fun i hi => by rw [(e i hi).1]; exact h.1 i hi, h.2.1, fun i hi z => by rw [(e i hi).2]; exact h.2.2 i hi z⟩
theorem r1_cnt {n s : Nat} {m : Nat → Bool} {c : Nat → Int64} {inn : Nat → Bool} {sc : Nat → Int64} (h : R1 n m c s inn sc) (hn : n ≤ 200) : cnt m 200 = cnt (fun i => inn (200 * s + i)) n := by
  rw [cnt_ext hn h.2.1]
  exact cnt_congr (fun i hi => h.1 i hi)
theorem RZ.up {sz : Nat → Int32} {sm : Nat → Nat → Bool} {k : Nat} {m : Nat → Bool} (h : RZ sz sm) : RZ (va_up sz k (nI (cnt m 200))) (va_up sm k m) := fun j hj => by
  by_cases e : j = k
  · rw [e, uu_s, uu_s]
  · rw [uu_n e, uu_n e]; exact h j hj
/-- the sets with the last one replaced -/
theorem RS.set {n d : Nat} {sm : Nat → Nat → Bool} {ss : Nat → Nat → Int64} {inn in' : Nat → Bool} {sc sc' : Nat → Int64} {k d' : Nat} {m : Nat → Bool} {c : Nat → Int64} (h : RS n d sm ss inn sc) (hn : n ≤ 200) (hd : d' ≤ 8) (hk : k < d' → R1 n m c k in' sc') (hlt : ∀ j, j < d' → j ≠ k → j < d) (e : ∀ j i, j < d' → j ≠ k → i < n → in' (200 * j + i) = inn (200 * j + i) ∧ sc' (200 * j + i) = sc (200 * j + i)) : RS n d' (va_up sm k m) (va_up ss k c) in' sc' := by
  refine ⟨hd, fun j hj => ?_⟩
  by_cases z : j = k
  · subst z; rw [uu_s, uu_s]; exact hk hj
  · rw [uu_n z, uu_n z]; exact (h.2 j (hlt j hj z)).keep (fun i hi => e j i hj z hi)
theorem fbr_congr {lv mv : Nat → Int32} {L : Int32} {f : Nat} (h : ∀ i, i < f → lv i = mv i) : fbr lv L f = fbr mv L f := by
  induction f with
  | zero => rfl
  | succ f ih => simp only [fbr]; rw [h f (by omega), ih (fun i hi => h i (by omega))]
theorem fb_congr {lv mv : Nat → Int32} {u : Nat} (h : ∀ i, i ≤ u → lv i = mv i) : fb lv u = fb mv u := by
  unfold fb; rw [h u (Nat.le_refl u)]; exact fbr_congr (fun i hi => h i (by omega))
theorem wfL.congr {lv mv : Nat → Int32} {n : Nat} (h : wfL lv n) (e : ∀ i, i < n → lv i = mv i) : wfL mv n :=
  ⟨fun i hi => by rw [← e i hi]; exact h.1 i hi, fun hn => by rw [← e (n - 1) (by omega)]; exact h.2 hn⟩
section RelA
variable {n : Nat} {lv va tg lk ky mlv mva mtg mlk mky : Nat → Int32} {al mal : Nat → Bool}
theorem RO.wf (h : RO n lv va tg lk ky al mlv mva mtg mlk mky mal) : wfL mlv n := h.2.2.1.congr (fun i hi => (h.2.1 i hi).1)
theorem ro_fb (h : RO n lv va tg lk ky al mlv mva mtg mlk mky mal) {u : Nat} (hu : u < n) : fb lv u = fb mlv u := fb_congr (fun i hi => (h.2.1 i (by omega)).1)
theorem ro_fnd (h : RO n lv va tg lk ky al mlv mva mtg mlk mky mal) {i : Nat} (hi : i < n) (k a b : Int32) : fnd k a b (lv i) (va i) (tg i) (lk i) (ky i) = fnd k a b (mlv i) (mva i) (mtg i) (mlk i) (mky i) := by
  obtain ⟨e1, e2, e3, e4, -, e6⟩ := h.2.1 i hi
  unfold fnd
  rw [← e1, ← e2, ← e3, ← e4]
  by_cases c : lv i = 2
  · rw [e6 c]
  · rw [decide_eq_false c, Bool.false_and, Bool.false_and]
theorem ro_lrP (h : RO n lv va tg lk ky al mlv mva mtg mlk mky mal) {i : Nat} (hi : i < n) (key : Int32) : lrP al lv ky key i = lrP mal mlv mky key i := by
  obtain ⟨e1, e2, e3, e4, e5, e6⟩ := h.2.1 i hi
  unfold lrP
  rw [← e1, ← e5]
  by_cases c : lv i = 2
  · rw [e6 c]
  · rw [decide_eq_false c, Bool.false_and, Bool.false_and]
theorem ro_ffr (h : RO n lv va tg lk ky al mlv mva mtg mlk mky mal) (key : Int32) : ffr (lrP al lv ky key) n 0 = ffr (lrP mal mlv mky key) n 0 := ffr_congr n 0 (fun j _ hj => ro_lrP h (by omega) key)
theorem ro_obj (h : RO n lv va tg lk ky al mlv mva mtg mlk mky mal) {j : Nat} (hj : j < n) (k : Int32) : obj k n j lv va tg lk ky al = obj k n j mlv mva mtg mlk mky mal := by
  obtain ⟨e1, e2, e3, e4, e5, e6⟩ := h.2.1 j hj
  unfold obj
  rw [← e1, ← e2, ← e3, ← e4, ← e5, ← ro_fb h hj]
  have e7 : ∀ d i, i + d ≤ n → ffr (fun q => decide (¬ lv q ≤ lv j)) d i = ffr (fun q => decide (¬ mlv q ≤ lv j)) d i := fun d i hd => ffr_congr d i (fun q h1 h2 => by rw [(h.2.1 q (by omega)).1])
  rw [e7 _ _ (by omega)]
  by_cases c : lv j = 2
  · rw [e6 c]
  · rw [if_neg c, if_neg c, if_neg c]
end RelA
theorem kpF_congr {α : Type} {al bl : Nat → Bool} {f : Nat → α} {n : Nat} (h : ∀ i, i < n → al i = bl i) : kpF al f n = kpF bl f n := by
  induction n with
  | zero => rfl
  | succ n ih => simp only [kpF]; rw [ih (fun i hi => h i (by omega)), h n (by omega), cnt_congr (fun i hi => h i (by omega))]
theorem kpT_t {al : Nat → Bool} {n j : Nat} (h : j < cnt al n) : kpT al n j = true := by
  obtain ⟨i, -, -, -, -, -, h6⟩ := kp_from h; exact h6
theorem cnt_mono {P : Nat → Bool} {a b : Nat} (h : a ≤ b) : cnt P a ≤ cnt P b := by
  induction b with
  | zero => rw [show a = 0 by omega]; exact Nat.le_refl _
  | succ b ih =>
    by_cases e : a = b + 1
    · rw [e]; exact Nat.le_refl _
    · have := ih (by omega)
      simp only [cnt]; omega
/-- behind a merge -/
theorem RO.merge {n : Nat} {lv va tg lk ky mlv mva mtg mlk mky : Nat → Int32} {al mal : Nat → Bool} (h : RO n lv va tg lk ky al mlv mva mtg mlk mky mal) : RO (cnt al n) (kpF al lv n) (kpF al va n) (kpF al tg n) (kpF al lk n) (kpF al ky n) (kpT al n) (kpF mal mlv n) (kpF mal mva n) (kpF mal mtg n) (kpF mal mlk n) (kpF mal mky n) (kpT mal n) ∧ cnt al n = cnt mal n := by
  obtain ⟨hn, hr, hw, hb⟩ := h
  have hal : ∀ i, i < n → al i = mal i := fun i hi => (hr i hi).2.2.2.2.1
  have hc : cnt al n = cnt mal n := cnt_congr hal
  have hle := cnt_le al n
  refine ⟨⟨by omega, fun j hj => ?_, ⟨fun j hj => ?_, fun hp => ?_⟩, fun j hj _ => ?_⟩, hc⟩
  · obtain ⟨i, h1, h2, h3, h4, h5, h6⟩ := kp_from hj
    obtain ⟨e1, e2, e3, e4, e5, e6⟩ := hr i h2
    have g : ∀ f : Nat → Int32, kpF mal f n j = f i := fun f => by rw [← kpF_congr hal]; exact h5 f
    rw [h5, h5, h5, h5, h5, h6, g, g, g, g, g, kpT_t (by rw [← hc]; exact hj)]
    exact ⟨e1, e2, e3, e4, rfl, e6⟩
  · obtain ⟨i, h1, h2, h3, h4, h5, h6⟩ := kp_from hj
    rw [h5]; exact hw.1 i h2
  · obtain ⟨i, h1, h2, h3, h4, h5, h6⟩ := kp_from (al := al) (n := n) (j := cnt al n - 1) (by omega)
    rw [h5]
    by_cases c : lv i = 2
    · exact c
    · exfalso
      have hin : i + 1 < n := by
        rcases Nat.lt_or_ge (i + 1) n with z | z
        · exact z
        · exact absurd (by rw [show i = n - 1 by omega]; exact hw.2 (by omega)) c
      have ha := hb i hin c
      rw [h3] at ha
      have e1 : cnt al (i + 2) = cnt al i + 2 := by simp only [cnt, h3, ← ha, if_true]
      have := cnt_mono (P := al) (show i + 2 ≤ n by omega)
      omega
  · rw [kpT_t (show j < cnt al n by omega), kpT_t hj]
/-- behind a block's death -/
theorem ro_kil {n u : Nat} {lv va tg lk ky mlv mva mtg mlk mky : Nat → Int32} {al mal : Nat → Bool} (h : RO n lv va tg lk ky al mlv mva mtg mlk mky mal) (hu : u < n) (h2 : lv u = 2) : RO n lv va tg lk ky (kil al (fb lv u) (u + 1)) mlv mva mtg mlk mky (kil mal (fb mlv u) (u + 1)) := by
  have hfb := ro_fb h hu
  obtain ⟨hn, hr, hw, hb⟩ := h
  refine ⟨hn, fun i hi => ?_, hw, fun i hi c => ?_⟩
  · obtain ⟨e1, e2, e3, e4, e5, e6⟩ := hr i hi
    refine ⟨e1, e2, e3, e4, ?_, e6⟩
    unfold kil
    rw [hfb, e5]
  · have := hb i hi c
    unfold kil
    rw [this]
    have hfl := fb_le lv u
    by_cases c1 : fb lv u ≤ i ∧ i < u + 1
    · have hne : i ≠ u := fun e => c (by rw [e]; exact h2)
      rw [if_pos c1, if_pos (by omega)]
    · rw [if_neg c1]
      by_cases c2 : fb lv u ≤ i + 1 ∧ i + 1 < u + 1
      · exfalso
        have hf : fb lv u = i + 1 := by omega
        have hg : lv u ≤ lv (fb lv u - 1) := fbr_ge (f := u) (show 0 < fbr lv (lv u) u by unfold fb at hf; omega)
        rw [hf, Nat.add_sub_cancel, h2, i32_le, i32_2] at hg
        have := hw.ti (show i < n by omega)
        rw [lv2] at c; omega
      · rw [if_neg c2]
/-- behind a close -/
theorem RO.close {n o : Nat} {v t k key : Int32} {lv va tg lk ky mlv mva mtg mlk mky olv ova otg olk oky op : Nat → Int32} {al mal : Nat → Bool} (h : RO n lv va tg lk ky al mlv mva mtg mlk mky mal) (hp : RP o olv ova otg olk op) (hno : n + o + 1 ≤ 200) :
    RO (n + o + 1) (va_up (apd lv n o olv) (n + o) 2) (va_up (apd va n o ova) (n + o) v) (va_up (apd tg n o otg) (n + o) t) (va_up (apd lk n o olk) (n + o) k) (va_up (apd ky n o oky) (n + o) key) (va_up (apd al n o (fun _ => true)) (n + o) true)
      (va_up (apd mlv n o (fun i => op (4 * i))) (n + o) 2) (va_up (apd mva n o (fun i => op (4 * i + 1))) (n + o) v) (va_up (apd mtg n o (fun i => op (4 * i + 2))) (n + o) t) (va_up (apd mlk n o (fun i => op (4 * i + 3))) (n + o) k) (va_up (apd mky n o (fun _ => -3)) (n + o) key) (va_up (apd mal n o (fun _ => true)) (n + o) true) := by
  obtain ⟨hn, hr, hw, hb⟩ := h
  obtain ⟨ho, hq⟩ := hp
  have two : ∀ {x : Int32}, (x = 0 ∨ x = 1) → ¬ x = 2 := by
    rintro x (rfl | rfl) <;> decide
  have cases : ∀ i, i < n + o + 1 → (i < n ∨ (∃ j, j < o ∧ i = n + j) ∨ i = n + o) := fun i hi => by
    rcases Nat.lt_or_ge i n with z | z
    · exact Or.inl z
    · rcases Nat.lt_or_ge i (n + o) with y | y
      · exact Or.inr (Or.inl ⟨i - n, by omega, by omega⟩)
      · exact Or.inr (Or.inr (by omega))
  refine ⟨hno, fun i hi => ?_, ⟨fun i hi => ?_, fun _ => ?_⟩, fun i hi c => ?_⟩
  · rcases cases i hi with z | ⟨j, hj, rfl⟩ | rfl
    · simp only [uu_n (show i ≠ n + o by omega), apd_lo z]
      exact hr i z
    · simp only [uu_n (show n + j ≠ n + o by omega), apd_hi hj]
      obtain ⟨e1, e2, e3, e4, e5⟩ := hq j hj
      exact ⟨e1, e2, e3, e4, trivial, fun y => absurd y (two e5)⟩
    · simp only [uu_s]; exact ⟨trivial, trivial, trivial, trivial, trivial, fun _ => trivial⟩
  · rcases cases i hi with z | ⟨j, hj, rfl⟩ | rfl
    · rw [uu_n (by omega), apd_lo z]; exact hw.1 i z
    · rw [uu_n (by omega), apd_hi hj]
      rcases (hq j hj).2.2.2.2 with y | y
      · exact Or.inl y
      · exact Or.inr (Or.inl y)
    · rw [uu_s]; exact Or.inr (Or.inr rfl)
  · rw [show n + o + 1 - 1 = n + o by omega, uu_s]
  · have up : ∀ i, n ≤ i → i < n + o + 1 → va_up (apd al n o (fun _ => true)) (n + o) true i = true := fun i h1 h2 => by
      by_cases e : i = n + o
      · rw [e, uu_s]
      · rw [uu_n e]; unfold apd; rw [if_pos (by omega)]
    rcases Nat.lt_or_ge i n with z | z
    · rw [uu_n (by omega), apd_lo z] at c
      rcases Nat.lt_or_ge (i + 1) n with y | y
      · rw [uu_n (by omega), uu_n (by omega), apd_lo z, apd_lo y]; exact hb i y c
      · exact absurd (by rw [show i = n - 1 by omega]; exact hw.2 (by omega)) c
    · rw [up i z (by omega), up (i + 1) (by omega) hi]
theorem R1.grow {n n' s : Nat} {m : Nat → Bool} {c : Nat → Int64} {inn in' : Nat → Bool} {sc : Nat → Int64} (h : R1 n m c s inn sc) (hs : s < 9) (hn : n ≤ n') (h2 : n' ≤ 200) (e1 : ∀ s i, s < 9 → n ≤ i → i < n' → in' (200 * s + i) = false) (e2 : ∀ x, (x % 200 < n ∨ n' ≤ x % 200) → in' x = inn x) : R1 n' m c s in' sc := by
  refine ⟨fun i hi => ?_, fun i h3 h4 => h.2.1 i (by omega) h4, fun i hi z => ?_⟩
  · rcases Nat.lt_or_ge i n with y | y
    · rw [e2 _ (Or.inl (by omega))]; exact h.1 i y
    · rw [e1 s i hs y hi]; exact h.2.1 i y (by omega)
  · rcases Nat.lt_or_ge i n with y | y
    · exact h.2.2 i y z
    · rw [h.2.1 i y (by omega)] at z; exact absurd z (by decide)
theorem RK.congr {sc sd : Nat → Int64} {P R : Nat → Bool} {a b : Nat} {L : List Nat} (h : RK sc P a b L) (e : ∀ i, a ≤ i → i < b → P i = R i) (es : ∀ i, a ≤ i → i < b → P i = true → sc i = sd i) : RK sd R a b L := by
  refine ⟨by rw [← mems_congr e]; exact h.1, h.2.imp_of_mem (fun {x y} hx hy q => ?_)⟩
  have hx2 := mems_mem.mp (h.1.mem_iff.mp hx)
  have hy2 := mems_mem.mp (h.1.mem_iff.mp hy)
  unfold leS at q ⊢
  rw [← es x hx2.1.1 hx2.1.2 hx2.2, ← es y hy2.1.1 hy2.1.2 hy2.2]; exact q
theorem mems_sub {R : Nat → Bool} {a b n : Nat} (hab : a ≤ b) (hbn : b ≤ n) : mems (fun i => decide (a ≤ i) && (decide (i < b) && R i)) 0 n = mems R a b := by
  unfold mems
  rw [← seg_app (g := id) (a := 0) (m := a) (b := n) (by omega) (by omega), ← seg_app (g := id) (a := a) (m := b) (b := n) hab hbn, List.filter_append, List.filter_append]
  have e1 : (seg id 0 a).filter (fun i => decide (a ≤ i) && (decide (i < b) && R i)) = [] := by
    rw [List.filter_eq_nil_iff]
    intro x hx
    obtain ⟨i, h1, h2, rfl⟩ := seg_mem.mp hx
    simp only [id]; simp; omega
  have e2 : (seg id b n).filter (fun i => decide (a ≤ i) && (decide (i < b) && R i)) = [] := by
    rw [List.filter_eq_nil_iff]
    intro x hx
    obtain ⟨i, h1, h2, rfl⟩ := seg_mem.mp hx
    simp only [id]; simp; omega
  rw [e1, e2, List.nil_append, List.append_nil]
  apply List.filter_congr
  intro x hx
  obtain ⟨i, h1, h2, rfl⟩ := seg_mem.mp hx
  simp only [id]
  rw [decide_eq_true h1, decide_eq_true h2]; rfl
theorem rk_ans {sc : Nat → Int64} {P : Nat → Bool} {n : Nat} {L : List Nat} (h : RK sc P 0 n L) (hn : n < 2 ^ 31) (k : Int32) : ans L k = (if k = -1 then nI (cnt P n) else lst (fun i => P i && decide (nI (cnt (fun j => P j && ahd sc j i) n) = k)) n) := by
  unfold ans
  rw [h.kth hn k, h.1.length_eq, mems_cnt]
  by_cases c : k = -1
  · rw [if_pos c, if_pos c]
  · rw [if_neg c, if_neg c]
    generalize (if k < 0 then none else L[k.toNatClampNeg]?) = x
    cases x <;> rfl
