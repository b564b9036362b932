/-! share, step for step; and the start -/
set_option maxHeartbeats 1000000 in
theorem st_share {o : Int32} {olv : Nat → Int32} {ova : Nat → Int32} {otg : Nat → Int32} {olk : Nat → Int32} {n : Int32} {lv : Nat → Int32} {va : Nat → Int32} {tg : Nat → Int32} {lk : Nat → Int32} {ky : Nat → Int32} {al : Nat → Bool} {d : Int32} {w : Bool} {km : Nat → Bool} {ks : Nat → Int64} {sz : Nat → Int32} {sm : Nat → Nat → Bool} {ss : Nat → Nat → Int64} {mn : Int32} {mo : Int32} {md : Int32} {hf : Bool} {mlv : Nat → Int32} {mva : Nat → Int32} {mtg : Nat → Int32} {mlk : Nat → Int32} {mky : Nat → Int32} {mal : Nat → Bool} {op : Nat → Int32} {inn : Nat → Bool} {sc : Nat → Int64} {oky : Nat → Int32} {oal : Nat → Bool} {tz : Int32} {tm : Nat → Bool} {ts : Nat → Int64} {kz : Int32} {rz : Int32} {nu : Nat → Int32} {mr : Nat → Int32} {thr : Int32} {was : Nat → Bool} {had : Nat → Int64} {f : Nat → Int64} (h : LI o olv ova otg olk n lv va tg lk ky al d w km ks sz sm ss mn mo md hf mlv mva mtg mlk mky mal op inn sc) : call_L_share d sz f (fun (k : Int32) (f1 : Nat → Int64) => call_X4_share thr mn md inn (fun (b : Int64) (t : Int32) => call_X4_thrown t (fun t2 => t2 = k ∧ (k = 0 → f1 0 = b)))) := by
  obtain ⟨N, O, E, rfl, rfl, rfl, rfl, rfl, rfl, rfl, hZ, hO, hP, hS, hF⟩ := h
  have hE := hS.1
  have hN := hO.1
  refine ⟨fun c => ?_, fun c => ?_⟩
  · rw [nI2, nI_leI (by decide) (by omega)] at c
    refine mp_share hN hE (fun _ => ?_) (fun c2 => by omega) (fun c2 => by omega)
    unfold call_X4_thrown
    exact ⟨rfl, fun _ => uu_s⟩
  · rw [nI2, nI_leI (by decide) (by omega)] at c
    have z1 := hZ (E - 2) (by omega)
    have z2 := hZ (E - 1) (by omega)
    rw [r1_cnt (hS.2 (E - 2) (by omega)) hN] at z1
    rw [r1_cnt (hS.2 (E - 1) (by omega)) hN] at z2
    have k1 := cnt_le (fun i => inn (200 * (E - 2) + i)) N
    have k2 := cnt_le (fun i => inn (200 * (E - 1) + i)) N
    refine ⟨E - 2, by omega, nIm2 c, by rw [nIm1 (by omega), show E - 2 + 1 = E - 1 by omega], fun z => ?_, fun z => ?_⟩
    · have z0 : cnt (fun i => inn (200 * (E - 2) + i)) N = 0 := by
        rw [z1] at z
        have e0 := nI_l (n := cnt (fun i => inn (200 * (E - 2) + i)) N) (by omega)
        rw [z] at e0
        exact ((lN_eq (by decide) (by omega)).mp (show lN 0 = lN _ from e0)).symm
      refine mp_share hN hE (fun c2 => by omega) (fun _ _ => ?_) (fun _ c3 => by omega)
      unfold call_X4_thrown
      exact ⟨rfl, fun c => absurd c (by decide)⟩
    · have z0 : 0 < cnt (fun i => inn (200 * (E - 2) + i)) N := by
        rcases Nat.eq_zero_or_pos (cnt (fun i => inn (200 * (E - 2) + i)) N) with e | e
        · exact absurd (by rw [z1, e]; rfl) z
        · exact e
      rw [show E - 2 + 1 = E - 1 by omega, z1, z2, nI_l (by omega), nI_l (by omega)]
      refine ⟨?_, ?_⟩
      · rw [show (0 : Int64) = lN 0 from rfl, lN_eq (by omega) (by decide)]; omega
      · refine mp_share hN hE (fun c2 => by omega) (fun _ c3 => by omega) (fun _ _ => ?_)
        unfold call_X4_thrown
        exact ⟨rfl, fun _ => uu_s⟩
theorem li_start : LI 0 (fun _ => 0) (fun _ => 0) (fun _ => 0) (fun _ => 0) 0 (fun _ => 0) (fun _ => 0) (fun _ => 0) (fun _ => 0) (fun _ => 0) (fun _ => false) 0 false (fun _ => false) (fun _ => 0) (fun _ => 0) (fun _ _ => false) (fun _ _ => 0) 0 0 0 false (fun _ => 0) (fun _ => 0) (fun _ => 0) (fun _ => 0) (fun _ => 0) (fun _ => false) (fun _ => 0) (fun _ => false) (fun _ => 0) := by
  have hc : ∀ n, cnt (fun _ => false) n = 0 := fun n => by
    induction n with
    | zero => rfl
    | succ n ih => simp only [cnt, ih]; rfl
  refine ⟨0, 0, 0, rfl, rfl, rfl, rfl, rfl, rfl, rfl, fun k _ => ?_, ⟨by decide, fun i hi => absurd hi (by omega), ⟨fun i hi => absurd hi (by omega), fun h => absurd h (by omega)⟩, fun i hi => absurd hi (by omega)⟩, ⟨by decide, fun i hi => absurd hi (by omega)⟩, ⟨by decide, fun k hk => absurd hk (by omega)⟩, fun h => absurd h (by decide)⟩
  rw [hc]; rfl
