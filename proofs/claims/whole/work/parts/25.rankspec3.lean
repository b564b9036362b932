/-- the members from a to b, in their order -/
def mems (P : Nat → Bool) (a b : Nat) : List Nat := (seg id a b).filter P
theorem mems_s {P : Nat → Bool} {a b : Nat} (h : a ≤ b) : mems P a (b + 1) = mems P a b ++ (if P b then [b] else []) := by
  unfold mems
  rw [← seg_app (g := id) (a := a) (m := b) (b := b + 1) h (by omega), List.filter_append]
  congr 1
  have : seg id b (b + 1) = [b] := by simp [seg]
  rw [this, List.filter_cons, List.filter_nil]
theorem mems_0 {P : Nat → Bool} {a b : Nat} (h : b ≤ a) : mems P a b = [] := by
  unfold mems seg
  rw [show b - a = 0 by omega]; rfl
theorem mems_len {P : Nat → Bool} {a b : Nat} : (mems P a b).length ≤ b - a := by
  unfold mems
  have := List.length_filter_le P (seg id a b)
  rw [seg_len] at this; exact this
theorem mems_mem {P : Nat → Bool} {a b x : Nat} : x ∈ mems P a b ↔ (a ≤ x ∧ x < b) ∧ P x = true := by
  unfold mems
  rw [List.mem_filter, seg_mem]
  constructor
  · rintro ⟨⟨i, h1, h2, rfl⟩, h3⟩; exact ⟨⟨h1, h2⟩, h3⟩
  · rintro ⟨⟨h1, h2⟩, h3⟩; exact ⟨⟨x, h1, h2, rfl⟩, h3⟩
theorem mems_asc (P : Nat → Bool) (a b : Nat) : (mems P a b).Pairwise (· < ·) := by
  unfold mems
  apply List.Pairwise.filter
  unfold seg
  rw [List.pairwise_map]
  exact List.pairwise_lt_range.imp (fun h => by simp only [id]; omega)
theorem mems_cnt (P : Nat → Bool) (n : Nat) : (mems P 0 n).length = cnt P n := by
  induction n with
  | zero => rfl
  | succ n ih =>
    rw [mems_s (Nat.zero_le n), List.length_append, ih]
    simp only [cnt]
    split <;> rfl
theorem mems_congr {P R : Nat → Bool} {a b : Nat} (h : ∀ i, a ≤ i → i < b → P i = R i) : mems P a b = mems R a b := by
  unfold mems
  apply List.filter_congr
  intro x hx
  obtain ⟨i, h1, h2, rfl⟩ := seg_mem.mp hx
  exact h i h1 h2
/-- what was sorted: the members, in the order of leS -/
def RK (sc : Nat → Int64) (P : Nat → Bool) (a b : Nat) (L : List Nat) : Prop := L.Perm (mems P a b) ∧ L.Pairwise (fun x y => leS sc x y = true)
theorem sp_rank {a b : Nat} {sz0 : Int32} {num mrg : Nat → Int32} {mem : Nat → Bool} {sc : Nat → Int64} {Q : Int32 → (Nat → Int32) → (Nat → Int32) → Prop} (hab : a ≤ b) (hb : b ≤ 200)
    (h : ∀ (L : List Nat) (num' mrg' : Nat → Int32), RK sc mem a b L → (∀ j v, L[j]? = some v → num' j = nI v) → Q (nI L.length) num' mrg') : call_X0_rank (nI a) (nI b) sz0 num mrg mem sc Q := by
  intro X8 X44 X53 h8 h44 h53
  -- the runs
  generalize hL0 : mems mem a b = L0
  have hl0 : L0.length ≤ 200 := by rw [← hL0]; have := mems_len (P := mem) (a := a) (b := b); omega
  have asc0 : L0.Pairwise (· < ·) := by rw [← hL0]; exact mems_asc mem a b
  have b0 : ∀ v, v ∈ L0 → v < 200 := fun v hv => by
    rw [← hL0] at hv; have := (mems_mem.mp hv).1; omega
  have hseg0 : seg (fun j => L0.getD j 0) 0 L0.length = L0 := by
    apply List.ext_getElem?
    intro t
    by_cases z : t < L0.length
    · rw [seg_get (by omega), Nat.zero_add, List.getD_eq_getElem?_getD, List.getElem?_eq_getElem z]; rfl
    · rw [List.getElem?_eq_none (by rw [seg_len]; omega), List.getElem?_eq_none (by omega)]
  have M : ∀ d w (n m : Nat → Int32) (g : Nat → Nat), L0.length ≤ w + d → 0 < w → w < 400 → (∀ j, j < L0.length → n j = nI (g j)) → (∀ k, k * w < L0.length → BLK sc (fun j => L0.getD j 0) g (k * w) (min (k * w + w) L0.length)) → X53 (nI w) (nI L0.length) n m := by
    intro d
    have fin : ∀ w (n m : Nat → Int32) (g : Nat → Nat), L0.length ≤ w → w < 400 → (∀ j, j < L0.length → n j = nI (g j)) → (∀ k, k * w < L0.length → BLK sc (fun j => L0.getD j 0) g (k * w) (min (k * w + w) L0.length)) → X53 (nI w) (nI L0.length) n m := by
      intro w n m g hw hw4 hn hb
      refine h53 _ _ _ _ ⟨fun _ => ?_, fun c => absurd (nI_le hw (by omega)) c⟩
      rcases Nat.eq_zero_or_pos L0.length with z | z
      · have e : L0 = [] := List.length_eq_zero_iff.mp z
        have := h [] n m ⟨by rw [hL0, e], List.Pairwise.nil⟩ (fun j v hj => by simp at hj)
        rw [z]; exact this
      · have b1 := hb 0 (by omega)
        rw [Nat.zero_mul, Nat.zero_add, show min w L0.length = L0.length by omega] at b1
        have := h (seg g 0 L0.length) n m ⟨by rw [hL0]; have := b1.1; rw [hseg0] at this; exact this, b1.2⟩ (fun j v hj => by
          have hjl : j < L0.length := by
            have := (List.getElem?_eq_some_iff.mp hj).1
            rw [seg_len] at this; omega
          rw [seg_get (by omega), Nat.zero_add] at hj
          rw [hn j hjl, Option.some.inj hj])
        rw [seg_len, Nat.sub_zero] at this
        exact this
    induction d with
    | zero => intro w n m g hd _ hw4 hn hb; exact fin w n m g (by omega) hw4 hn hb
    | succ d ih =>
      intro w n m g hd hw hw4 hn hb
      rcases Nat.lt_or_ge w L0.length with z | z
      · refine h53 _ _ _ _ ⟨fun c => absurd c (nI_ge z (by omega)), fun _ => ?_⟩
        refine sp_mergeRuns (g0 := fun j => L0.getD j 0) (g := g) hw (by omega) hl0 hn (fun i hi => ?_) (fun i j hij hj => ?_) hb (fun n' m' g' hn' hb' => ?_)
        · show L0.getD i 0 < 200
          rw [List.getD_eq_getElem?_getD, List.getElem?_eq_getElem hi]
          exact b0 _ (List.getElem_mem hi)
        · show L0.getD i 0 < L0.getD j 0
          rw [List.getD_eq_getElem?_getD, List.getElem?_eq_getElem (by omega), List.getD_eq_getElem?_getD, List.getElem?_eq_getElem hj]
          exact List.pairwise_iff_getElem.mp asc0 i j (by omega) hj hij
        · rw [nI2, pk_mul, Nat.mul_comm w 2]
          exact ih (2 * w) n' m' g' (by omega) (by omega) (by omega) hn' hb'
      · exact fin w n m g z hw4 hn hb
  -- the gathering
  have G : ∀ d i (n m : Nat → Int32), i + d = b → a ≤ i → (∀ j v, (mems mem a i)[j]? = some v → n j = nI v) → X8 (nI i) (nI (mems mem a i).length) n m := by
    intro d
    induction d with
    | zero =>
      intro i n m hi hai hn
      obtain rfl : i = b := by omega
      rw [hL0] at hn ⊢
      refine h8 _ _ _ _ ⟨fun _ => ?_, fun c => absurd (nI_le (Nat.le_refl i) (by omega)) c⟩
      refine M L0.length 1 n m (fun j => L0.getD j 0) (by omega) (by omega) (by omega) (fun j hj => ?_) (fun k hk => ?_)
      · rw [List.getD_eq_getElem?_getD, List.getElem?_eq_getElem hj]
        exact hn j _ (List.getElem?_eq_getElem hj)
      · rw [Nat.mul_one] at *
        rw [show min (k + 1) L0.length = k + 1 by omega]
        exact ⟨List.Perm.refl _, by simp [seg]⟩
    | succ d ih =>
      intro i n m hi hai hn
      refine h8 _ _ _ _ ⟨fun c => absurd c (nI_ge (by omega) (by omega)), fun _ => sp_hasN (by omega) ⟨fun c => h44 _ _ _ _ ?_, fun c => ⟨(mems mem a i).length, ?_, rfl, h44 _ _ _ _ ?_⟩⟩⟩
      · rw [nI_1]
        have e : mems mem a (i + 1) = mems mem a i := by rw [mems_s hai, c]; simp
        have := ih (i + 1) n m (by omega) (by omega) (by rw [e]; exact hn)
        rw [e] at this; exact this
      · have := mems_len (P := mem) (a := a) (b := i); omega
      · rw [nI_1, nI_1]
        have e : mems mem a (i + 1) = mems mem a i ++ [i] := by rw [mems_s hai, c]; simp
        have := ih (i + 1) (va_up n (mems mem a i).length (nI i)) m (by omega) (by omega) (by
          rw [e]
          intro j v hj
          rw [List.getElem?_append] at hj
          by_cases z : j < (mems mem a i).length
          · rw [if_pos z] at hj; rw [uu_n (by omega)]; exact hn j v hj
          · rw [if_neg z] at hj
            have hz : j - (mems mem a i).length = 0 := by
              have := (List.getElem?_eq_some_iff.mp hj).1
              simp at this; omega
            rw [hz] at hj
            rw [show j = (mems mem a i).length by omega, uu_s]
            simp at hj; rw [hj])
        rw [e, List.length_append] at this
        exact this
  have := G (b - a) a num mrg (by omega) (Nat.le_refl a) (by rw [mems_0 (Nat.le_refl a)]; intro j v hj; simp at hj)
  rw [mems_0 (Nat.le_refl a)] at this
  exact this
/-- x stands ahead of y -/
def ahd (sc : Nat → Int64) (x y : Nat) : Bool := decide (sc y < sc x) || (decide (sc x = sc y) && decide (x < y))
theorem ahd_iff {sc : Nat → Int64} {x y : Nat} : ahd sc x y = true ↔ sc y < sc x ∨ (sc x = sc y ∧ x < y) := by simp [ahd]
theorem ahd_ff {sc : Nat → Int64} {x y : Nat} (h : ahd sc x y = true) : ahd sc y x = false := by
  rw [← Bool.not_eq_true]
  rw [ahd_iff, i64_lt, i64_eq] at *
  omega
theorem ahd_rf (sc : Nat → Int64) (x : Nat) : ahd sc x x = false := by
  rw [← Bool.not_eq_true, ahd_iff, i64_lt]
  omega
theorem cnt_range (P : Nat → Bool) (n : Nat) : cnt P n = (List.range n).countP P := by
  induction n with
  | zero => rfl
  | succ n ih =>
    rw [List.range_succ, List.countP_append, ← ih]
    simp only [cnt, List.countP_cons, List.countP_nil]
    split <;> simp_all
theorem seg_id (n : Nat) : seg id 0 n = List.range n := by
  simp [seg]
theorem rk_at {sc : Nat → Int64} (L : List Nat) (h : L.Pairwise (fun x y => ahd sc x y = true)) (k : Nat) (v : Nat) (hk : L[k]? = some v) : L.countP (fun x => ahd sc x v) = k := by
  induction L generalizing k with
  | nil => simp at hk
  | cons x xs ih =>
    rw [List.pairwise_cons] at h
    rw [List.countP_cons]
    cases k with
    | zero =>
      simp at hk
      subst hk
      rw [ahd_rf]
      have : xs.countP (fun y => ahd sc y x) = 0 := by
        rw [List.countP_eq_zero]
        intro y hy
        rw [ahd_ff (h.1 y hy)]; decide
      rw [this]; rfl
    | succ k =>
      have hk2 : xs[k]? = some v := by simpa using hk
      rw [ih h.2 k hk2, h.1 v (List.mem_of_getElem? hk2)]; rfl
theorem RK.nodup {sc : Nat → Int64} {P : Nat → Bool} {a b : Nat} {L : List Nat} (h : RK sc P a b L) : L.Nodup :=
  h.1.nodup_iff.mpr ((mems_asc P a b).imp (fun h => Nat.ne_of_lt h))
theorem RK.strict {sc : Nat → Int64} {P : Nat → Bool} {a b : Nat} {L : List Nat} (h : RK sc P a b L) : L.Pairwise (fun x y => ahd sc x y = true) := by
  refine (List.Pairwise.and h.2 h.nodup).imp ?_
  rintro x y ⟨h1, h2⟩
  rw [leS_iff] at h1; rw [ahd_iff]
  rcases h1 with h1 | h1
  · exact Or.inl h1
  · exact Or.inr ⟨h1.1, by omega⟩
/-- the k-th of the sorted has k ahead of it -/
theorem RK.rank {sc : Nat → Int64} {P : Nat → Bool} {n : Nat} {L : List Nat} (h : RK sc P 0 n L) {k v : Nat} (hk : L[k]? = some v) : cnt (fun j => P j && ahd sc j v) n = k := by
  rw [cnt_range]
  have e : (List.range n).countP (fun j => P j && ahd sc j v) = (mems P 0 n).countP (fun j => ahd sc j v) := by
    unfold mems
    rw [seg_id, List.countP_filter]
    congr 1
    funext j
    rw [Bool.and_comm]
  rw [e, ← h.1.countP_eq]
  exact rk_at L h.strict k v hk
theorem RK.mem {sc : Nat → Int64} {P : Nat → Bool} {n : Nat} {L : List Nat} (h : RK sc P 0 n L) {v : Nat} (hv : v < n) (hp : P v = true) : ∃ k : Nat, L[k]? = some v := by
  have : v ∈ L := h.1.mem_iff.mpr (mems_mem.mpr ⟨⟨Nat.zero_le v, hv⟩, hp⟩)
  obtain ⟨k, hk, e⟩ := List.getElem_of_mem this
  exact ⟨k, by rw [List.getElem?_eq_getElem hk, e]⟩
/-- the last one that .., or -1 -/
def lst (R : Nat → Bool) : Nat → Int32
  | 0 => -1
  | n + 1 => if R n then nI n else lst R n
theorem lst_none {R : Nat → Bool} {n : Nat} (h : ∀ i, i < n → R i = false) : lst R n = -1 := by
  induction n with
  | zero => rfl
  | succ n ih => simp only [lst]; rw [h n (by omega)]; exact ih (fun i hi => h i (by omega))
theorem lst_one {R : Nat → Bool} {n v : Nat} (hv : v < n) (h1 : R v = true) (h : ∀ i, i < n → R i = true → i = v) : lst R n = nI v := by
  induction n with
  | zero => omega
  | succ n ih =>
    simp only [lst]
    by_cases c : R n = true
    · rw [if_pos c, h n (by omega) c]
    · rw [if_neg c]
      refine ih ?_ (fun i hi => h i (by omega))
      rcases Nat.lt_or_ge v n with z | z
      · exact z
      · have : v = n := by omega
        subst this; exact absurd h1 c
/-- the sorted list's answer and the count's are one -/
theorem RK.kth {sc : Nat → Int64} {P : Nat → Bool} {n : Nat} {L : List Nat} (h : RK sc P 0 n L) (hn : n < 2 ^ 31) (k : Int32) :
    lst (fun i => P i && decide (nI (cnt (fun j => P j && ahd sc j i) n) = k)) n = (match (if k < 0 then none else L[k.toNatClampNeg]?) with | some v => nI v | none => -1) := by
  have hr : ∀ i, i < n → P i = true → ∃ q : Nat, L[q]? = some i ∧ cnt (fun j => P j && ahd sc j i) n = q := fun i hi hp => by
    obtain ⟨q, hq⟩ := h.mem hi hp
    exact ⟨q, hq, h.rank hq⟩
  have hlen : L.length ≤ n := by
    rw [h.1.length_eq]; have := mems_len (P := P) (a := 0) (b := n); omega
  by_cases c : k < 0
  · rw [if_pos c]
    refine lst_none (fun i hi => ?_)
    rw [Bool.and_eq_false_iff]
    right
    rw [decide_eq_false_iff_not]
    intro e
    rw [← e] at c
    exact nI_pos (by have := cnt_le (fun j => P j && ahd sc j i) n; omega) c
  · rw [if_neg c]
    obtain ⟨q, hq, rfl⟩ := nI_of c
    rw [nI_clamp hq]
    cases e : L[q]? with
    | none =>
      refine lst_none (fun i hi => ?_)
      rw [← Bool.not_eq_true]
      intro z
      simp only [Bool.and_eq_true, decide_eq_true_eq] at z
      obtain ⟨q', h1, h2⟩ := hr i hi z.1
      have hq' : q' < L.length := (List.getElem?_eq_some_iff.mp h1).1
      rw [h2, nI_eq (by omega) hq] at z
      rw [← z.2, h1] at e
      exact absurd e (by simp)
    | some v =>
      have hv : v ∈ L := List.mem_of_getElem? e
      have hv2 := mems_mem.mp (h.1.mem_iff.mp hv)
      refine lst_one hv2.1.2 ?_ (fun i hi z => ?_)
      · simp only [Bool.and_eq_true, decide_eq_true_eq]
        exact ⟨hv2.2, by rw [h.rank e]⟩
      · simp only [Bool.and_eq_true, decide_eq_true_eq] at z
        obtain ⟨q', h1, h2⟩ := hr i hi z.1
        have hq' : q' < L.length := (List.getElem?_eq_some_iff.mp h1).1
        rw [h2, nI_eq (by omega) hq] at z
        rw [z.2, e] at h1
        exact (Option.some.inj h1).symm
