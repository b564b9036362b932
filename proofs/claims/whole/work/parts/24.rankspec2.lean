/-- a block of g is that of g0 in another order, the greatest score first -/
def BLK (sc : Nat → Int64) (g0 g : Nat → Nat) (a b : Nat) : Prop := (seg g a b).Perm (seg g0 a b) ∧ (seg g a b).Pairwise (fun x y => leS sc x y = true)
theorem BLK.from {sc : Nat → Int64} {g0 g : Nat → Nat} {a b : Nat} (h : BLK sc g0 g a b) {i : Nat} (h1 : a ≤ i) (h2 : i < b) : ∃ i', a ≤ i' ∧ i' < b ∧ g i = g0 i' := by
  have hm : g i ∈ seg g0 a b := h.1.mem_iff.mp (seg_mem.mpr ⟨i, h1, h2, rfl⟩)
  obtain ⟨i', q1, q2, q3⟩ := seg_mem.mp hm
  exact ⟨i', q1, q2, q3.symm⟩
theorem BLK.congr {sc : Nat → Int64} {g0 g h : Nat → Nat} {a b : Nat} (e : ∀ i, a ≤ i → i < b → g i = h i) (k : BLK sc g0 g a b) : BLK sc g0 h a b := by
  unfold BLK at *
  rw [← seg_congr e]; exact k
theorem minI {a b : Nat} (ha : a < 2 ^ 31) (hb : b < 2 ^ 31) : (if nI a < nI b then nI a else nI b) = nI (min a b) := by
  by_cases c : a < b
  · rw [if_pos (nI_lt c hb), Nat.min_eq_left (by omega)]
  · rw [if_neg (nI_nlt (by omega) ha), Nat.min_eq_right (by omega)]
theorem nI2 : (2 : Int32) = nI 2 := rfl
theorem sp_mergeRuns {w c : Nat} {g0 g : Nat → Nat} {num mrg : Nat → Int32} {sc : Nat → Int64} {Q : (Nat → Int32) → (Nat → Int32) → Prop} (hw : 0 < w) (hw2 : w < 200) (hc : c ≤ 200) (hg : ∀ j, j < c → num j = nI (g j)) (hg0 : ∀ i, i < c → g0 i < 200) (hasc : ∀ i j, i < j → j < c → g0 i < g0 j)
    (hbl : ∀ k, k * w < c → BLK sc g0 g (k * w) (min (k * w + w) c))
    (h : ∀ (num' mrg' : Nat → Int32) (g' : Nat → Nat), (∀ j, j < c → num' j = nI (g' j)) → (∀ k, k * (2 * w) < c → BLK sc g0 g' (k * (2 * w)) (min (k * (2 * w) + 2 * w) c)) → Q num' mrg') : call_X0_mergeRuns (nI w) (nI c) num mrg sc Q := by
  intro X2 h2
  have L : ∀ d k (m : Nat → Int32) (g' : Nat → Nat), c + 1 ≤ k + d → (∀ j, j < k * (2 * w) → j < c → m j = nI (g' j)) → (∀ q, q < k → q * (2 * w) < c → BLK sc g0 g' (q * (2 * w)) (min (q * (2 * w) + 2 * w) c)) → k * (2 * w) < c + 2 * w → X2 (nI (k * (2 * w))) num m := by
    intro d
    induction d with
    | zero =>
      intro k m g' hd _ _ hk
      exfalso
      have : k * 2 ≤ k * (2 * w) := Nat.mul_le_mul_left k (by omega)
      have h3 : (k - 1) * (2 * w) + 2 * w = k * (2 * w) := by
        obtain ⟨k', rfl⟩ : ∃ k', k = k' + 1 := ⟨k - 1, by omega⟩
        rw [Nat.add_mul]; simp
      have h4 : (k - 1) * 2 ≤ (k - 1) * (2 * w) := Nat.mul_le_mul_left (k - 1) (by omega)
      omega
    | succ d ih =>
      intro k m g' hd hv hb hk
      by_cases e : c ≤ k * (2 * w)
      · refine h2 _ _ _ ⟨fun _ => ⟨c, hc, rfl, h _ _ g' (fun j hj => ?_) (fun q hq => hb q ?_ hq)⟩, fun q => absurd (nI_le e (by omega)) q⟩
        · rw [pk_cpy_in (Nat.zero_le j) (by omega)]
          rw [show 0 + (j - 0) = j by omega]
          exact hv j (by omega) hj
        · rcases Nat.lt_or_ge q k with z | z
          · exact z
          · have := Nat.mul_le_mul_right (2 * w) z
            omega
      · generalize hst : k * (2 * w) = st at *
        have hk2 : k * 2 * w = st := by rw [← hst, Nat.mul_assoc]
        have hk3 : (k * 2 + 1) * w = st + w := by rw [Nat.add_mul, hk2, Nat.one_mul]
        have b1 := hbl (k * 2) (by omega)
        rw [hk2] at b1
        refine h2 _ _ _ ⟨fun q => absurd q (nI_ge (by omega) (by omega)), fun _ => ?_⟩
        rw [nI2, pk_mul, nI_add, nI_add, minI (by omega) (by omega), minI (by omega) (by omega)]
        have b2 : st + w < c → BLK sc g0 g (st + w) (min (st + 2 * w) c) := by
          intro q
          have := hbl (k * 2 + 1) (by omega)
          rw [hk3, show st + w + w = st + 2 * w by omega] at this
          exact this
        have fromL : ∀ i, st ≤ i → i < min c (st + w) → ∃ i', st ≤ i' ∧ i' < min c (st + w) ∧ g i = g0 i' := by
          intro i q1 q2
          obtain ⟨i', z1, z2, z3⟩ := b1.from q1 (by omega)
          exact ⟨i', z1, by omega, z3⟩
        have fromR : ∀ i, min c (st + w) ≤ i → i < min c (st + 2 * w) → ∃ i', st + w ≤ i' ∧ i' < min c (st + 2 * w) ∧ g i = g0 i' := by
          intro i q1 q2
          obtain ⟨i', z1, z2, z3⟩ := (b2 (by omega)).from (i := i) (by omega) (by omega)
          exact ⟨i', z1, by omega, z3⟩
        refine sp_mergeTwo (g := g) (by omega) (by omega) (by omega) (fun j q1 q2 => ⟨hg j (by omega), ?_⟩) (fun i j q1 q2 q3 q4 => ?_) (fun m' ho hv2 => ?_)
        · rcases Nat.lt_or_ge j (min c (st + w)) with z | z
          · obtain ⟨i', z1, z2, z3⟩ := fromL j q1 z
            rw [z3]; exact hg0 i' (by omega)
          · obtain ⟨i', z1, z2, z3⟩ := fromR j z q2
            rw [z3]; exact hg0 i' (by omega)
        · obtain ⟨i', z1, z2, z3⟩ := fromL i q1 q2
          obtain ⟨j', y1, y2, y3⟩ := fromR j q3 q4
          rw [z3, y3]; exact hasc i' j' (by omega) (by omega)
        · -- the merged stretch as a function
          have hlen : (List.merge (seg g st (min c (st + w))) (seg g (min c (st + w)) (min c (st + 2 * w))) (leS sc)).length = min c (st + 2 * w) - st := by
            rw [List.length_merge, seg_len, seg_len]; omega
          generalize hMM : List.merge (seg g st (min c (st + w))) (seg g (min c (st + w)) (min c (st + 2 * w))) (leS sc) = MM at hv2 hlen
          have hseg : ∀ f : Nat → Nat, (∀ t, t < min c (st + 2 * w) - st → MM[t]? = some (f (st + t))) → seg f st (min c (st + 2 * w)) = MM := by
            intro f hf
            apply List.ext_getElem?
            intro t
            by_cases z : t < min c (st + 2 * w) - st
            · rw [seg_get z, hf t z]
            · rw [List.getElem?_eq_none (by rw [seg_len]; omega), List.getElem?_eq_none (by omega)]
          have hf := hseg (fun j => if st ≤ j ∧ j < min c (st + 2 * w) then MM.getD (j - st) 0 else g' j) (fun t ht => by
            rw [if_pos (by omega), show st + t - st = t by omega, List.getD_eq_getElem?_getD, List.getElem?_eq_getElem (by omega)]; rfl)
          generalize hG : (fun j => if st ≤ j ∧ j < min c (st + 2 * w) then MM.getD (j - st) 0 else g' j) = G at hf
          have hGo : ∀ j, (j < st ∨ min c (st + 2 * w) ≤ j) → G j = g' j := fun j hj => by rw [← hG]; exact if_neg (by omega)
          have hkk : (k + 1) * (2 * w) = st + 2 * w := by rw [Nat.add_mul, hst, Nat.one_mul]
          have := ih (k + 1) m' G (by omega) (fun j hj hjc => ?_) (fun q hq hqc => ?_) (by rw [hkk]; omega)
          · rw [hkk] at this
            exact this
          · rw [hkk] at hj
            rcases Nat.lt_or_ge j st with z | z
            · rw [ho j (Or.inl z), hGo j (Or.inl z)]; exact hv j z hjc
            · obtain ⟨v, e1, e2⟩ := hv2 (j - st) (by omega)
              rw [show st + (j - st) = j by omega] at e2
              rw [e2, ← hG]
              show nI v = nI (if _ then _ else _)
              rw [if_pos (by omega), List.getD_eq_getElem?_getD, e1]; rfl
          · by_cases z : q = k
            · subst z
              rw [hst, show min (st + 2 * w) c = min c (st + 2 * w) by omega]
              refine ⟨?_, ?_⟩
              · rw [hf, ← hMM]
                refine (List.merge_perm_append (le := leS sc)).trans ?_
                rw [← seg_app (g := g0) (a := st) (m := min c (st + w)) (b := min c (st + 2 * w)) (by omega) (by omega)]
                refine List.Perm.append ?_ ?_
                · have := b1.1
                  rw [show min (st + w) c = min c (st + w) by omega] at this
                  exact this
                · rcases Nat.lt_or_ge (st + w) c with y | y
                  · have := (b2 y).1
                    rw [show min c (st + w) = st + w by omega, show min c (st + 2 * w) = min (st + 2 * w) c by omega]
                    exact this
                  · rw [show min c (st + w) = c by omega, show min c (st + 2 * w) = c by omega]
                    simp [seg]
              · rw [hf, ← hMM]
                refine List.pairwise_merge (leS_trans sc) (leS_total sc) _ _ ?_ ?_
                · have := b1.2
                  rw [show min (st + w) c = min c (st + w) by omega] at this
                  exact this
                · rcases Nat.lt_or_ge (st + w) c with y | y
                  · have := (b2 y).2
                    rw [show min c (st + w) = st + w by omega, show min c (st + 2 * w) = min (st + 2 * w) c by omega]
                    exact this
                  · rw [show min c (st + w) = c by omega, show min c (st + 2 * w) = c by omega]
                    simp [seg]
            · have hq2 : q < k := by omega
              refine (hb q hq2 hqc).congr (fun i q1 q2 => (hGo i (Or.inl ?_)).symm)
              have : (q + 1) * (2 * w) ≤ k * (2 * w) := Nat.mul_le_mul_right _ hq2
              rw [Nat.add_mul, Nat.one_mul, hst] at this
              omega
  have := L (c + 1) 0 mrg (fun _ => 0) (by omega) (fun j hj => by simp at hj) (fun q hq => by omega) (by omega)
  rw [Nat.zero_mul] at this
  exact this
