/-! a call on both sides: the same answer, and they stand side by side again -/
def LI (o : Int32) (olv : Nat → Int32) (ova : Nat → Int32) (otg : Nat → Int32) (olk : Nat → Int32) (n : Int32) (lv : Nat → Int32) (va : Nat → Int32) (tg : Nat → Int32) (lk : Nat → Int32) (ky : Nat → Int32) (al : Nat → Bool) (d : Int32) (w : Bool) (km : Nat → Bool) (ks : Nat → Int64) (sz : Nat → Int32) (sm : Nat → Nat → Bool) (ss : Nat → Nat → Int64) (mn : Int32) (mo : Int32) (md : Int32) (hf : Bool) (mlv : Nat → Int32) (mva : Nat → Int32) (mtg : Nat → Int32) (mlk : Nat → Int32) (mky : Nat → Int32) (mal : Nat → Bool) (op : Nat → Int32) (inn : Nat → Bool) (sc : Nat → Int64) : Prop :=
  ∃ N O E : Nat, n = nI N ∧ mn = nI N ∧ o = nI O ∧ mo = nI O ∧ d = nI E ∧ md = nI E ∧ hf = w ∧ RZ sz sm ∧ RO N lv va tg lk ky al mlv mva mtg mlk mky mal ∧ RP O olv ova otg olk op ∧ RS N E sm ss inn sc ∧ RF N w km ks inn sc
set_option maxHeartbeats 1000000 in
theorem st_child {o : Int32} {olv : Nat → Int32} {ova : Nat → Int32} {otg : Nat → Int32} {olk : Nat → Int32} {n : Int32} {lv : Nat → Int32} {va : Nat → Int32} {tg : Nat → Int32} {lk : Nat → Int32} {ky : Nat → Int32} {al : Nat → Bool} {d : Int32} {w : Bool} {km : Nat → Bool} {ks : Nat → Int64} {sz : Nat → Int32} {sm : Nat → Nat → Bool} {ss : Nat → Nat → Int64} {mn : Int32} {mo : Int32} {md : Int32} {hf : Bool} {mlv : Nat → Int32} {mva : Nat → Int32} {mtg : Nat → Int32} {mlk : Nat → Int32} {mky : Nat → Int32} {mal : Nat → Bool} {op : Nat → Int32} {inn : Nat → Bool} {sc : Nat → Int64} {oky : Nat → Int32} {oal : Nat → Bool} {tz : Int32} {tm : Nat → Bool} {ts : Nat → Int64} {kz : Int32} {rz : Int32} {nu : Nat → Int32} {mr : Nat → Int32} {thr : Int32} {was : Nat → Bool} {had : Nat → Int64} (h : LI o olv ova otg olk n lv va tg lk ky al d w km ks sz sm ss mn mo md hf mlv mva mtg mlk mky mal op inn sc) (p1 : Int32) (p2 : Int32) (p3 : Int32) (p4 : Int32) : call_X3_child p1 p2 p3 p4 o olv ova otg olk oky oal (fun (r : Int32) (oN : Int32) (olvN : Nat → Int32) (ovaN : Nat → Int32) (otgN : Nat → Int32) (olkN : Nat → Int32) (okyN : Nat → Int32) (oalN : Nat → Bool) => call_X4_child p1 p2 p3 p4 thr mo op (fun (r2 : Int32) (thrN : Int32) (moN : Int32) (opN : Nat → Int32) => r = r2 ∧ LI oN olvN ovaN otgN olkN n lv va tg lk ky al d w km ks sz sm ss mn moN md hf mlv mva mtg mlk mky mal opN inn sc)) := by
  obtain ⟨N, O, E, rfl, rfl, rfl, rfl, rfl, rfl, rfl, hZ, hO, hP, hS, hF⟩ := h
  have ff : ∀ {b : Bool} {c : Prop}, b = true → b = false → c := fun h1 h2 => absurd (h1.symm.trans h2) (by decide)
  refine sp_child hP.1 (fun c => mp_child hP.1 (fun _ => ⟨rfl, ⟨N, O, E, rfl, rfl, rfl, rfl, rfl, rfl, rfl, hZ, hO, hP, hS, hF⟩⟩) (fun c2 => ff c2 c) (fun c2 => ff c2 c)) (fun c c1 => mp_child hP.1 (fun c2 => ff c c2) (fun _ _ => ⟨rfl, ⟨N, O, E, rfl, rfl, rfl, rfl, rfl, rfl, rfl, hZ, hO, hP, hS, hF⟩⟩) (fun _ c3 => by omega)) (fun c c1 => mp_child hP.1 (fun c2 => ff c c2) (fun _ c3 => by omega) (fun _ _ => ⟨rfl, N, O + 1, E, rfl, rfl, rfl, rfl, rfl, rfl, rfl, hZ, hO, ⟨by omega, fun i hi => ?_⟩, hS, hF⟩))
  by_cases e : i = O
  · subst e
    refine ⟨?_, ?_, ?_, ?_, ?_⟩
    · rw [uu_s, uu_n (by omega), uu_n (by omega), uu_n (by omega), uu_s]
    · rw [uu_s, uu_n (by omega), uu_n (by omega), uu_s]
    · rw [uu_s, uu_n (by omega), uu_s]
    · rw [uu_s, uu_s]
    · rw [uu_s]
      have hw : wB p1 0 1 = true := by rw [Bool.and_eq_true] at c; exact c.1
      simp only [wB, Bool.and_eq_true, decide_eq_true_eq] at hw
      obtain ⟨j, hj, rfl⟩ := nI_of hw.1
      have h5 := hw.2
      rw [nI1, nI_ltI (by decide) hj] at h5
      rcases (show j = 0 ∨ j = 1 by omega) with rfl | rfl
      · exact Or.inl rfl
      · exact Or.inr rfl
  · rw [uu_n e, uu_n e, uu_n e, uu_n e, uu_n (by omega), uu_n (by omega), uu_n (by omega), uu_n (by omega), uu_n (by omega), uu_n (by omega), uu_n (by omega), uu_n (by omega), uu_n (by omega), uu_n (by omega), uu_n (by omega), uu_n (by omega), uu_n (by omega), uu_n (by omega), uu_n (by omega), uu_n (by omega)]
    exact hP.2 i (by omega)
set_option maxHeartbeats 1000000 in
theorem st_close {o : Int32} {olv : Nat → Int32} {ova : Nat → Int32} {otg : Nat → Int32} {olk : Nat → Int32} {n : Int32} {lv : Nat → Int32} {va : Nat → Int32} {tg : Nat → Int32} {lk : Nat → Int32} {ky : Nat → Int32} {al : Nat → Bool} {d : Int32} {w : Bool} {km : Nat → Bool} {ks : Nat → Int64} {sz : Nat → Int32} {sm : Nat → Nat → Bool} {ss : Nat → Nat → Int64} {mn : Int32} {mo : Int32} {md : Int32} {hf : Bool} {mlv : Nat → Int32} {mva : Nat → Int32} {mtg : Nat → Int32} {mlk : Nat → Int32} {mky : Nat → Int32} {mal : Nat → Bool} {op : Nat → Int32} {inn : Nat → Bool} {sc : Nat → Int64} {oky : Nat → Int32} {oal : Nat → Bool} {tz : Int32} {tm : Nat → Bool} {ts : Nat → Int64} {kz : Int32} {rz : Int32} {nu : Nat → Int32} {mr : Nat → Int32} {thr : Int32} {was : Nat → Bool} {had : Nat → Int64} (h : LI o olv ova otg olk n lv va tg lk ky al d w km ks sz sm ss mn mo md hf mlv mva mtg mlk mky mal op inn sc) (p1 : Int32) (p2 : Int32) (p3 : Int32) (p4 : Int32) : call_X3_close p1 p2 p3 p4 d w o olv ova otg olk oky n lv va tg lk ky al (fun (r : Int32) (dN : Int32) (wN : Bool) (oN : Int32) (nN : Int32) (lvN : Nat → Int32) (vaN : Nat → Int32) (tgN : Nat → Int32) (lkN : Nat → Int32) (kyN : Nat → Int32) (alN : Nat → Bool) => call_X4_close p1 p2 p3 p4 thr mn mo md hf mlv mva mtg mlk mky mal op inn (fun (r2 : Int32) (thrN : Int32) (mnN : Int32) (moN : Int32) (mdN : Int32) (hfN : Bool) (mlvN : Nat → Int32) (mvaN : Nat → Int32) (mtgN : Nat → Int32) (mlkN : Nat → Int32) (mkyN : Nat → Int32) (malN : Nat → Bool) (innN : Nat → Bool) => r = r2 ∧ LI oN olv ova otg olk nN lvN vaN tgN lkN kyN alN dN wN km ks sz sm ss mnN moN mdN hfN mlvN mvaN mtgN mlkN mkyN malN op innN sc)) := by
  obtain ⟨N, O, E, rfl, rfl, rfl, rfl, rfl, rfl, rfl, hZ, hO, hP, hS, hF⟩ := h
  have ff : ∀ {b : Bool} {c : Prop}, b = true → b = false → c := fun h1 h2 => absurd (h1.symm.trans h2) (by decide)
  refine sp_close hO.1 hP.1 (fun c => mp_close hO.1 hP.1 (fun _ => ⟨rfl, ⟨N, O, E, rfl, rfl, rfl, rfl, rfl, rfl, rfl, hZ, hO, hP, hS, hF⟩⟩) (fun c2 => ff c2 c) (fun c2 => ff c2 c)) (fun c c1 => mp_close hO.1 hP.1 (fun c2 => ff c c2) (fun _ _ => ⟨rfl, ⟨N, O, E, rfl, rfl, rfl, rfl, rfl, rfl, rfl, hZ, hO, hP, hS, hF⟩⟩) (fun _ c3 => by omega)) (fun c c1 dp' w' al' hx => mp_close hO.1 hP.1 (fun c2 => ff c c2) (fun _ c3 => by omega) (fun _ _ st' hf' al2 in' hm e1 e2 => ⟨rfl, ?_⟩))
  have hPn : RP 0 olv ova otg olk op := ⟨by omega, fun i hi => by omega⟩
  rw [← ro_ffr hO p1] at hm
  rcases hx with ⟨x1, rfl, rfl, rfl⟩ | ⟨u, x1, x2, rfl, rfl, rfl⟩
  · rcases hm with ⟨m1, rfl, rfl, rfl⟩ | ⟨u, m1, m2, -⟩
    · refine ⟨N + O + 1, 0, E, rfl, rfl, rfl, rfl, rfl, rfl, rfl, hZ, hO.close hP c1, hPn, ⟨hS.1, fun k hk => (hS.2 k hk).grow (by have := hS.1; omega) (by omega) c1 e1 e2⟩, fun hw => (hF hw).grow (by omega) (by omega) c1 e1 e2⟩
    · omega
  · rcases hm with ⟨m1, -⟩ | ⟨u2, m1, m2, rfl, rfl, rfl⟩
    · omega
    · have hu : u2 = u := by omega
      subst hu
      have hl2 : lv u2 = 2 := by
        have hy := ffr_yes (P := lrP al lv ky p1) (d := N) (i := 0) (by omega)
        simp only [lrP, Bool.and_eq_true, decide_eq_true_eq] at hy
        rw [m1]; exact hy.2.1
      exact ⟨N + O + 1, 0, 0, rfl, rfl, rfl, rfl, rfl, rfl, rfl, hZ, (ro_kil hO m2 hl2).close hP c1, hPn, ⟨by omega, fun k hk => by omega⟩, fun hw => absurd hw (by decide)⟩
set_option maxHeartbeats 1000000 in
theorem st_drop {o : Int32} {olv : Nat → Int32} {ova : Nat → Int32} {otg : Nat → Int32} {olk : Nat → Int32} {n : Int32} {lv : Nat → Int32} {va : Nat → Int32} {tg : Nat → Int32} {lk : Nat → Int32} {ky : Nat → Int32} {al : Nat → Bool} {d : Int32} {w : Bool} {km : Nat → Bool} {ks : Nat → Int64} {sz : Nat → Int32} {sm : Nat → Nat → Bool} {ss : Nat → Nat → Int64} {mn : Int32} {mo : Int32} {md : Int32} {hf : Bool} {mlv : Nat → Int32} {mva : Nat → Int32} {mtg : Nat → Int32} {mlk : Nat → Int32} {mky : Nat → Int32} {mal : Nat → Bool} {op : Nat → Int32} {inn : Nat → Bool} {sc : Nat → Int64} {oky : Nat → Int32} {oal : Nat → Bool} {tz : Int32} {tm : Nat → Bool} {ts : Nat → Int64} {kz : Int32} {rz : Int32} {nu : Nat → Int32} {mr : Nat → Int32} {thr : Int32} {was : Nat → Bool} {had : Nat → Int64} (h : LI o olv ova otg olk n lv va tg lk ky al d w km ks sz sm ss mn mo md hf mlv mva mtg mlk mky mal op inn sc)  : call_X3_drop o (fun (r : Int32) (oN : Int32) => call_X4_drop thr mo (fun (r2 : Int32) (thrN : Int32) (moN : Int32) => r = r2 ∧ LI oN olv ova otg olk n lv va tg lk ky al d w km ks sz sm ss mn moN md hf mlv mva mtg mlk mky mal op inn sc)) := by
  obtain ⟨N, O, E, rfl, rfl, rfl, rfl, rfl, rfl, rfl, hZ, hO, hP, hS, hF⟩ := h
  exact ⟨rfl, N, 0, E, rfl, rfl, rfl, rfl, rfl, rfl, rfl, hZ, hO, ⟨by omega, fun i hi => by omega⟩, hS, hF⟩
set_option maxHeartbeats 1000000 in
theorem st_kill {o : Int32} {olv : Nat → Int32} {ova : Nat → Int32} {otg : Nat → Int32} {olk : Nat → Int32} {n : Int32} {lv : Nat → Int32} {va : Nat → Int32} {tg : Nat → Int32} {lk : Nat → Int32} {ky : Nat → Int32} {al : Nat → Bool} {d : Int32} {w : Bool} {km : Nat → Bool} {ks : Nat → Int64} {sz : Nat → Int32} {sm : Nat → Nat → Bool} {ss : Nat → Nat → Int64} {mn : Int32} {mo : Int32} {md : Int32} {hf : Bool} {mlv : Nat → Int32} {mva : Nat → Int32} {mtg : Nat → Int32} {mlk : Nat → Int32} {mky : Nat → Int32} {mal : Nat → Bool} {op : Nat → Int32} {inn : Nat → Bool} {sc : Nat → Int64} {oky : Nat → Int32} {oal : Nat → Bool} {tz : Int32} {tm : Nat → Bool} {ts : Nat → Int64} {kz : Int32} {rz : Int32} {nu : Nat → Int32} {mr : Nat → Int32} {thr : Int32} {was : Nat → Bool} {had : Nat → Int64} (h : LI o olv ova otg olk n lv va tg lk ky al d w km ks sz sm ss mn mo md hf mlv mva mtg mlk mky mal op inn sc) (p1 : Int32) : call_X3_kill p1 d w n lv ky al (fun (r : Int32) (dN : Int32) (wN : Bool) (alN : Nat → Bool) => call_X4_kill p1 thr mn md hf mlv mky mal (fun (r2 : Int32) (thrN : Int32) (mdN : Int32) (hfN : Bool) (malN : Nat → Bool) => r = r2 ∧ LI o olv ova otg olk n lv va tg lk ky alN dN wN km ks sz sm ss mn mo mdN hfN mlv mva mtg mlk mky malN op inn sc)) := by
  obtain ⟨N, O, E, rfl, rfl, rfl, rfl, rfl, rfl, rfl, hZ, hO, hP, hS, hF⟩ := h
  refine sp_kill hO.1 (fun c => mp_kill hO.1 (fun _ => ⟨rfl, ⟨N, O, E, rfl, rfl, rfl, rfl, rfl, rfl, rfl, hZ, hO, hP, hS, hF⟩⟩) (fun u e1 e2 => ?_)) (fun u e1 e2 => mp_kill hO.1 (fun c => ?_) (fun u2 m1 m2 => ?_))
  · rw [← ro_ffr hO p1] at e1; omega
  · rw [← ro_ffr hO p1] at c; omega
  · rw [← ro_ffr hO p1] at m1
    have hu : u2 = u := by omega
    subst hu
    have hl2 : lv u2 = 2 := by
      have hy := ffr_yes (P := lrP al lv ky p1) (d := N) (i := 0) (by omega)
      simp only [lrP, Bool.and_eq_true, decide_eq_true_eq] at hy
      rw [m1]; exact hy.2.1
    refine ⟨by rw [ro_fb hO m2], N, O, 0, rfl, rfl, rfl, rfl, rfl, rfl, rfl, hZ, ro_kil hO m2 hl2, hP, ⟨by omega, fun k hk => by omega⟩, fun hw => absurd hw (by decide)⟩
set_option maxHeartbeats 1000000 in
theorem st_merge {o : Int32} {olv : Nat → Int32} {ova : Nat → Int32} {otg : Nat → Int32} {olk : Nat → Int32} {n : Int32} {lv : Nat → Int32} {va : Nat → Int32} {tg : Nat → Int32} {lk : Nat → Int32} {ky : Nat → Int32} {al : Nat → Bool} {d : Int32} {w : Bool} {km : Nat → Bool} {ks : Nat → Int64} {sz : Nat → Int32} {sm : Nat → Nat → Bool} {ss : Nat → Nat → Int64} {mn : Int32} {mo : Int32} {md : Int32} {hf : Bool} {mlv : Nat → Int32} {mva : Nat → Int32} {mtg : Nat → Int32} {mlk : Nat → Int32} {mky : Nat → Int32} {mal : Nat → Bool} {op : Nat → Int32} {inn : Nat → Bool} {sc : Nat → Int64} {oky : Nat → Int32} {oal : Nat → Bool} {tz : Int32} {tm : Nat → Bool} {ts : Nat → Int64} {kz : Int32} {rz : Int32} {nu : Nat → Int32} {mr : Nat → Int32} {thr : Int32} {was : Nat → Bool} {had : Nat → Int64} (h : LI o olv ova otg olk n lv va tg lk ky al d w km ks sz sm ss mn mo md hf mlv mva mtg mlk mky mal op inn sc)  : call_X3_merge d w n lv va tg lk ky al (fun (r : Int32) (dN : Int32) (wN : Bool) (nN : Int32) (lvN : Nat → Int32) (vaN : Nat → Int32) (tgN : Nat → Int32) (lkN : Nat → Int32) (kyN : Nat → Int32) (alN : Nat → Bool) => call_X4_merge thr mn md hf mlv mva mtg mlk mky mal (fun (r2 : Int32) (thrN : Int32) (mnN : Int32) (mdN : Int32) (hfN : Bool) (mlvN : Nat → Int32) (mvaN : Nat → Int32) (mtgN : Nat → Int32) (mlkN : Nat → Int32) (mkyN : Nat → Int32) (malN : Nat → Bool) => r = r2 ∧ LI o olv ova otg olk nN lvN vaN tgN lkN kyN alN dN wN km ks sz sm ss mnN mo mdN hfN mlvN mvaN mtgN mlkN mkyN malN op inn sc)) := by
  obtain ⟨N, O, E, rfl, rfl, rfl, rfl, rfl, rfl, rfl, hZ, hO, hP, hS, hF⟩ := h
  obtain ⟨hm, hc⟩ := hO.merge
  refine sp_merge hO.1 (mp_merge hO.1 ⟨by rw [hc], cnt al N, O, 0, rfl, by rw [hc], rfl, rfl, rfl, rfl, rfl, hZ, hm, hP, ⟨by omega, fun k hk => by omega⟩, fun hw => absurd hw (by decide)⟩)
set_option maxHeartbeats 1000000 in
theorem st_object {o : Int32} {olv : Nat → Int32} {ova : Nat → Int32} {otg : Nat → Int32} {olk : Nat → Int32} {n : Int32} {lv : Nat → Int32} {va : Nat → Int32} {tg : Nat → Int32} {lk : Nat → Int32} {ky : Nat → Int32} {al : Nat → Bool} {d : Int32} {w : Bool} {km : Nat → Bool} {ks : Nat → Int64} {sz : Nat → Int32} {sm : Nat → Nat → Bool} {ss : Nat → Nat → Int64} {mn : Int32} {mo : Int32} {md : Int32} {hf : Bool} {mlv : Nat → Int32} {mva : Nat → Int32} {mtg : Nat → Int32} {mlk : Nat → Int32} {mky : Nat → Int32} {mal : Nat → Bool} {op : Nat → Int32} {inn : Nat → Bool} {sc : Nat → Int64} {oky : Nat → Int32} {oal : Nat → Bool} {tz : Int32} {tm : Nat → Bool} {ts : Nat → Int64} {kz : Int32} {rz : Int32} {nu : Nat → Int32} {mr : Nat → Int32} {thr : Int32} {was : Nat → Bool} {had : Nat → Int64} (h : LI o olv ova otg olk n lv va tg lk ky al d w km ks sz sm ss mn mo md hf mlv mva mtg mlk mky mal op inn sc) (p1 : Int32) (p2 : Int32) : call_X3_object p1 p2 n lv va tg lk ky al (fun (r : Int32)  => call_X4_object p1 p2 thr mn mlv mva mtg mlk mky mal (fun (r2 : Int32) (thrN : Int32) => r = r2 ∧ LI o olv ova otg olk n lv va tg lk ky al d w km ks sz sm ss mn mo md hf mlv mva mtg mlk mky mal op inn sc)) := by
  obtain ⟨N, O, E, rfl, rfl, rfl, rfl, rfl, rfl, rfl, hZ, hO, hP, hS, hF⟩ := h
  refine sp_object hO.1 (fun c => mp_object hO.wf hO.1 (fun _ => ⟨rfl, ⟨N, O, E, rfl, rfl, rfl, rfl, rfl, rfl, rfl, hZ, hO, hP, hS, hF⟩⟩) (fun j hj e => absurd e (c j hj))) (fun j hj e => mp_object hO.wf hO.1 (fun c => absurd e (c j hj)) (fun j2 hj2 e2 => ⟨?_, ⟨N, O, E, rfl, rfl, rfl, rfl, rfl, rfl, rfl, hZ, hO, hP, hS, hF⟩⟩))
  have hN := hO.1
  rw [e, nI_eq (by omega) (by omega)] at e2
  subst e2
  exact ro_obj hO hj p2
set_option maxHeartbeats 1000000 in
theorem st_count {o : Int32} {olv : Nat → Int32} {ova : Nat → Int32} {otg : Nat → Int32} {olk : Nat → Int32} {n : Int32} {lv : Nat → Int32} {va : Nat → Int32} {tg : Nat → Int32} {lk : Nat → Int32} {ky : Nat → Int32} {al : Nat → Bool} {d : Int32} {w : Bool} {km : Nat → Bool} {ks : Nat → Int64} {sz : Nat → Int32} {sm : Nat → Nat → Bool} {ss : Nat → Nat → Int64} {mn : Int32} {mo : Int32} {md : Int32} {hf : Bool} {mlv : Nat → Int32} {mva : Nat → Int32} {mtg : Nat → Int32} {mlk : Nat → Int32} {mky : Nat → Int32} {mal : Nat → Bool} {op : Nat → Int32} {inn : Nat → Bool} {sc : Nat → Int64} {oky : Nat → Int32} {oal : Nat → Bool} {tz : Int32} {tm : Nat → Bool} {ts : Nat → Int64} {kz : Int32} {rz : Int32} {nu : Nat → Int32} {mr : Nat → Int32} {thr : Int32} {was : Nat → Bool} {had : Nat → Int64} (h : LI o olv ova otg olk n lv va tg lk ky al d w km ks sz sm ss mn mo md hf mlv mva mtg mlk mky mal op inn sc) (p1 : Int32) : call_X3_count p1 d o n lv al (fun (r : Int32)  => call_X4_count p1 thr mn mo md mlv mal (fun (r2 : Int32) (thrN : Int32) => r = r2 ∧ LI o olv ova otg olk n lv va tg lk ky al d w km ks sz sm ss mn mo md hf mlv mva mtg mlk mky mal op inn sc)) := by
  obtain ⟨N, O, E, rfl, rfl, rfl, rfl, rfl, rfl, rfl, hZ, hO, hP, hS, hF⟩ := h
  refine sp_count hO.1 (mp_count hO.1 ⟨?_, ⟨N, O, E, rfl, rfl, rfl, rfl, rfl, rfl, rfl, hZ, hO, hP, hS, hF⟩⟩)
  have e1 : cnt (fun i => al i && decide (¬ lv i < 0)) N = cnt mal N := cnt_congr (fun i hi => by
    have := hO.2.2.1.ti hi
    have h3 : ¬ lv i < 0 := by rw [i32_lt, i32_0]; omega
    rw [decide_eq_true h3, Bool.and_true]; exact (hO.2.1 i hi).2.2.2.2.1)
  have e2 : cnt (fun i => al i && decide (¬ lv i < 2)) N = cnt (fun i => mal i && decide (mlv i = 2)) N := cnt_congr (fun i hi => by
    have := hO.2.2.1.ti hi
    have h3 : decide (¬ lv i < 2) = decide (mlv i = 2) := decide_eq_decide.mpr (by
      rw [← (hO.2.1 i hi).1, i32_lt, i32_2, lv2]; omega)
    rw [h3, (hO.2.1 i hi).2.2.2.2.1])
  rw [e1, e2]
set_option maxHeartbeats 1000000 in
theorem st_root {o : Int32} {olv : Nat → Int32} {ova : Nat → Int32} {otg : Nat → Int32} {olk : Nat → Int32} {n : Int32} {lv : Nat → Int32} {va : Nat → Int32} {tg : Nat → Int32} {lk : Nat → Int32} {ky : Nat → Int32} {al : Nat → Bool} {d : Int32} {w : Bool} {km : Nat → Bool} {ks : Nat → Int64} {sz : Nat → Int32} {sm : Nat → Nat → Bool} {ss : Nat → Nat → Int64} {mn : Int32} {mo : Int32} {md : Int32} {hf : Bool} {mlv : Nat → Int32} {mva : Nat → Int32} {mtg : Nat → Int32} {mlk : Nat → Int32} {mky : Nat → Int32} {mal : Nat → Bool} {op : Nat → Int32} {inn : Nat → Bool} {sc : Nat → Int64} {oky : Nat → Int32} {oal : Nat → Bool} {tz : Int32} {tm : Nat → Bool} {ts : Nat → Int64} {kz : Int32} {rz : Int32} {nu : Nat → Int32} {mr : Nat → Int32} {thr : Int32} {was : Nat → Bool} {had : Nat → Int64} (h : LI o olv ova otg olk n lv va tg lk ky al d w km ks sz sm ss mn mo md hf mlv mva mtg mlk mky mal op inn sc) (p1 : Int32) : call_X3_root p1 n lv ky al (fun (r : Int32)  => call_X4_root p1 thr mn mlv mky mal (fun (r2 : Int32) (thrN : Int32) => r = r2 ∧ LI o olv ova otg olk n lv va tg lk ky al d w km ks sz sm ss mn mo md hf mlv mva mtg mlk mky mal op inn sc)) := by
  obtain ⟨N, O, E, rfl, rfl, rfl, rfl, rfl, rfl, rfl, hZ, hO, hP, hS, hF⟩ := h
  exact sp_root hO.1 (mp_root hO.1 ⟨by rw [ro_ffr hO p1], ⟨N, O, E, rfl, rfl, rfl, rfl, rfl, rfl, rfl, hZ, hO, hP, hS, hF⟩⟩)
set_option maxHeartbeats 1000000 in
theorem st_find {o : Int32} {olv : Nat → Int32} {ova : Nat → Int32} {otg : Nat → Int32} {olk : Nat → Int32} {n : Int32} {lv : Nat → Int32} {va : Nat → Int32} {tg : Nat → Int32} {lk : Nat → Int32} {ky : Nat → Int32} {al : Nat → Bool} {d : Int32} {w : Bool} {km : Nat → Bool} {ks : Nat → Int64} {sz : Nat → Int32} {sm : Nat → Nat → Bool} {ss : Nat → Nat → Int64} {mn : Int32} {mo : Int32} {md : Int32} {hf : Bool} {mlv : Nat → Int32} {mva : Nat → Int32} {mtg : Nat → Int32} {mlk : Nat → Int32} {mky : Nat → Int32} {mal : Nat → Bool} {op : Nat → Int32} {inn : Nat → Bool} {sc : Nat → Int64} {oky : Nat → Int32} {oal : Nat → Bool} {tz : Int32} {tm : Nat → Bool} {ts : Nat → Int64} {kz : Int32} {rz : Int32} {nu : Nat → Int32} {mr : Nat → Int32} {thr : Int32} {was : Nat → Bool} {had : Nat → Int64} (h : LI o olv ova otg olk n lv va tg lk ky al d w km ks sz sm ss mn mo md hf mlv mva mtg mlk mky mal op inn sc) (p1 : Int32) (p2 : Int32) (p3 : Int32) : ∃ k : Nat, k < 8 ∧ call_X3_find k p1 p2 p3 d n lv va tg lk ky al (sz k) (sm k) (ss k) (fun (r : Int32) (dN : Int32) (zN : Int32) (mN : Nat → Bool) (sN : Nat → Int64) => call_X4_find p1 p2 p3 thr mn md mlv mva mtg mlk mky mal inn sc (fun (r2 : Int32) (thrN : Int32) (mdN : Int32) (innN : Nat → Bool) (scN : Nat → Int64) => r = r2 ∧ LI o olv ova otg olk n lv va tg lk ky al dN w km ks (va_up sz k zN) (va_up sm k mN) (va_up ss k sN) mn mo mdN hf mlv mva mtg mlk mky mal op innN scN)) := by
  obtain ⟨N, O, E, rfl, rfl, rfl, rfl, rfl, rfl, rfl, hZ, hO, hP, hS, hF⟩ := h
  have hE := hS.1
  have hN := hO.1
  obtain ⟨k, hk, hkE⟩ : ∃ k, k < 8 ∧ (E < 8 → k = E) := by
    rcases Nat.lt_or_ge E 8 with z | z
    · exact ⟨E, z, fun _ => rfl⟩
    · exact ⟨0, by omega, fun y => by omega⟩
  refine ⟨k, hk, ?_⟩
  have keep : LI (nI O) olv ova otg olk (nI N) lv va tg lk ky al (nI E) hf km ks (va_up sz k (sz k)) (va_up sm k (sm k)) (va_up ss k (ss k)) (nI N) (nI O) (nI E) hf mlv mva mtg mlk mky mal op inn sc := by
    rw [up_same rfl, up_same rfl, up_same rfl]; exact ⟨N, O, E, rfl, rfl, rfl, rfl, rfl, rfl, rfl, hZ, hO, hP, hS, hF⟩
  have ff : ∀ {b : Bool} {c : Prop}, b = true → b = false → c := fun h1 h2 => absurd (h1.symm.trans h2) (by decide)
  refine sp_find hN hE hkE (fun c => mp_find hN hE (fun _ => ⟨rfl, keep⟩) (fun c2 => ff c2 c) (fun c2 => ff c2 c)) (fun c c1 => mp_find hN hE (fun c2 => ff c c2) (fun _ _ => ⟨rfl, keep⟩) (fun _ c3 => by omega)) (fun c c1 m' c' hm hc => mp_find hN hE (fun c2 => ff c c2) (fun _ c3 => by omega) (fun _ _ in' sc' g1 g2 g3 => ?_))
  have hkk := hkE c1
  subst hkk
  have hR : R1 N m' c' k in' sc' := by
    refine ⟨fun i hi => ?_, fun i h1 h2 => ?_, fun i hi z => ?_⟩
    · rw [hm i (by omega), g1 i hi, decide_eq_true hi, Bool.true_and, (hO.2.1 i hi).2.2.2.2.1, ro_fnd hO hi]
    · rw [hm i h2, decide_eq_false (by omega), Bool.false_and]
    · rw [hc i (by omega) z, g2 i hi, (hO.2.1 i hi).2.1]
  refine ⟨by rw [r1_cnt hR hN], N, O, k + 1, rfl, rfl, rfl, rfl, rfl, rfl, rfl, hZ.up, hO, hP, hS.set hN (by omega) (fun _ => hR) (fun j h1 h2 => by omega) (fun j i h1 h2 h3 => g3 _ (Or.inl (by omega))), fun hw => (hF hw).keep (fun i hi => g3 _ (Or.inr (by omega)))⟩
set_option maxHeartbeats 1000000 in
theorem st_join {o : Int32} {olv : Nat → Int32} {ova : Nat → Int32} {otg : Nat → Int32} {olk : Nat → Int32} {n : Int32} {lv : Nat → Int32} {va : Nat → Int32} {tg : Nat → Int32} {lk : Nat → Int32} {ky : Nat → Int32} {al : Nat → Bool} {d : Int32} {w : Bool} {km : Nat → Bool} {ks : Nat → Int64} {sz : Nat → Int32} {sm : Nat → Nat → Bool} {ss : Nat → Nat → Int64} {mn : Int32} {mo : Int32} {md : Int32} {hf : Bool} {mlv : Nat → Int32} {mva : Nat → Int32} {mtg : Nat → Int32} {mlk : Nat → Int32} {mky : Nat → Int32} {mal : Nat → Bool} {op : Nat → Int32} {inn : Nat → Bool} {sc : Nat → Int64} {oky : Nat → Int32} {oal : Nat → Bool} {tz : Int32} {tm : Nat → Bool} {ts : Nat → Int64} {kz : Int32} {rz : Int32} {nu : Nat → Int32} {mr : Nat → Int32} {thr : Int32} {was : Nat → Bool} {had : Nat → Int64} (h : LI o olv ova otg olk n lv va tg lk ky al d w km ks sz sm ss mn mo md hf mlv mva mtg mlk mky mal op inn sc) (p1 : Int32) : ∃ k : Nat, k < 7 ∧ call_X3_join k (k + 1) p1 d (sz k) (sm k) (ss k) (sm (k + 1)) (ss (k + 1)) (fun (r : Int32) (dN : Int32) (zN : Int32) (mN : Nat → Bool) (sN : Nat → Int64) => call_X4_join p1 thr mn md inn sc (fun (r2 : Int32) (thrN : Int32) (mdN : Int32) (innN : Nat → Bool) (scN : Nat → Int64) => r = r2 ∧ LI o olv ova otg olk n lv va tg lk ky al dN w km ks (va_up sz k zN) (va_up sm k mN) (va_up ss k sN) mn mo mdN hf mlv mva mtg mlk mky mal op innN scN)) := by
  obtain ⟨N, O, E, rfl, rfl, rfl, rfl, rfl, rfl, rfl, hZ, hO, hP, hS, hF⟩ := h
  have hE := hS.1
  have hN := hO.1
  obtain ⟨k, hk, hkE⟩ : ∃ k, k < 7 ∧ (2 ≤ E → k = E - 2 ∧ k + 1 = E - 1) := by
    rcases Nat.lt_or_ge E 2 with z | z
    · exact ⟨0, by omega, fun y => by omega⟩
    · exact ⟨E - 2, by omega, fun _ => ⟨rfl, by omega⟩⟩
  refine ⟨k, hk, ?_⟩
  have keep : LI (nI O) olv ova otg olk (nI N) lv va tg lk ky al (nI E) hf km ks (va_up sz k (sz k)) (va_up sm k (sm k)) (va_up ss k (ss k)) (nI N) (nI O) (nI E) hf mlv mva mtg mlk mky mal op inn sc := by
    rw [up_same rfl, up_same rfl, up_same rfl]; exact ⟨N, O, E, rfl, rfl, rfl, rfl, rfl, rfl, rfl, hZ, hO, hP, hS, hF⟩
  have ff : ∀ {b : Bool} {c : Prop}, b = true → b = false → c := fun h1 h2 => absurd (h1.symm.trans h2) (by decide)
  have hz := hZ k (by omega)
  rw [hz] at keep ⊢
  refine sp_join hE hkE (fun c => mp_join hN hE (fun _ => ⟨rfl, keep⟩) (fun c2 => ff c2 c) (fun c2 => ff c2 c)) (fun c c1 => mp_join hN hE (fun c2 => ff c c2) (fun _ _ => ⟨rfl, keep⟩) (fun _ c3 => by omega)) (fun c c1 m' c' hm hc => mp_join hN hE (fun c2 => ff c c2) (fun _ c3 => by omega) (fun _ _ in' sc' g1 g2 g3 => ?_))
  obtain ⟨k1, k2⟩ := hkE c1
  rw [← k1, ← k2] at g1 g2
  rw [← k1] at g3 ⊢
  rw [← k2]
  have h1 := hS.2 k (by omega)
  have h2 := hS.2 (k + 1) (by omega)
  have hR : R1 N m' c' k in' sc' := by
    refine ⟨fun i hi => ?_, fun i y1 y2 => ?_, fun i hi z => ?_⟩
    · rw [hm i (by omega), g1 i hi, h1.1 i hi, h2.1 i hi]
    · rw [hm i y2, h1.2.1 i y1 y2, h2.2.1 i y1 y2]
      by_cases z0 : p1 = 0
      · rw [if_pos z0]; rfl
      · rw [if_neg z0]
        by_cases z1 : p1 = 1
        · rw [if_pos z1]; rfl
        · rw [if_neg z1]; rfl
    · have hz2 := z
      rw [hc i (by omega) z, g2 i hi, ← h1.1 i hi, ← h2.1 i hi]
      rw [hm i (by omega)] at z
      by_cases z0 : p1 = 0
      · rw [if_pos z0] at z ⊢
        rw [if_pos (Or.inl z0)]
        rw [Bool.and_eq_true] at z
        rw [if_pos z.1, if_pos z.2, h1.2.2 i hi z.1, h2.2.2 i hi z.2]
      · rw [if_neg z0] at z ⊢
        by_cases z1 : p1 = 1
        · rw [if_pos z1] at z ⊢
          rw [if_pos (Or.inr z1)]
          cases y1 : sm k i
          · cases y2 : sm (k + 1) i
            · rw [y1, y2] at z; exact absurd z (by decide)
            · rw [if_neg (by decide), if_neg (by decide), if_pos rfl, h2.2.2 i hi y2, Int64.zero_add]
          · cases y2 : sm (k + 1) i
            · rw [if_pos rfl, if_neg (by decide), if_pos rfl, if_neg (by decide), h1.2.2 i hi y1, Int64.add_zero]
            · rw [if_pos rfl, if_pos rfl, if_pos rfl, if_pos rfl, h1.2.2 i hi y1, h2.2.2 i hi y2]
        · rw [if_neg z1] at z ⊢
          rw [if_neg (fun y => y.elim z0 z1)]
          rw [Bool.and_eq_true] at z
          exact h1.2.2 i hi z.1
  refine ⟨by rw [r1_cnt hR hN], N, O, k + 1, rfl, rfl, rfl, rfl, rfl, rfl, rfl, hZ.up, hO, hP, hS.set hN (by omega) (fun _ => hR) (fun j y1 y2 => by omega) (fun j i y1 y2 y3 => g3 _ (by omega)), fun hw => (hF hw).keep (fun i hi => g3 _ (Or.inr (by omega)))⟩
set_option maxHeartbeats 1000000 in
theorem st_up {o : Int32} {olv : Nat → Int32} {ova : Nat → Int32} {otg : Nat → Int32} {olk : Nat → Int32} {n : Int32} {lv : Nat → Int32} {va : Nat → Int32} {tg : Nat → Int32} {lk : Nat → Int32} {ky : Nat → Int32} {al : Nat → Bool} {d : Int32} {w : Bool} {km : Nat → Bool} {ks : Nat → Int64} {sz : Nat → Int32} {sm : Nat → Nat → Bool} {ss : Nat → Nat → Int64} {mn : Int32} {mo : Int32} {md : Int32} {hf : Bool} {mlv : Nat → Int32} {mva : Nat → Int32} {mtg : Nat → Int32} {mlk : Nat → Int32} {mky : Nat → Int32} {mal : Nat → Bool} {op : Nat → Int32} {inn : Nat → Bool} {sc : Nat → Int64} {oky : Nat → Int32} {oal : Nat → Bool} {tz : Int32} {tm : Nat → Bool} {ts : Nat → Int64} {kz : Int32} {rz : Int32} {nu : Nat → Int32} {mr : Nat → Int32} {thr : Int32} {was : Nat → Bool} {had : Nat → Int64} (h : LI o olv ova otg olk n lv va tg lk ky al d w km ks sz sm ss mn mo md hf mlv mva mtg mlk mky mal op inn sc) (p1 : Int32) (p2 : Int32) : ∃ k : Nat, k < 8 ∧ call_X3_up k p1 p2 d w n lv kz km ks (sz k) (sm k) (ss k) (fun (r : Int32) (wN : Bool) (kzN : Int32) (kmN : Nat → Bool) (ksN : Nat → Int64) (zN : Int32) (mN : Nat → Bool) (sN : Nat → Int64) => call_X4_up p1 p2 thr mn md hf mlv inn sc was had (fun (r2 : Int32) (thrN : Int32) (hfN : Bool) (innN : Nat → Bool) (scN : Nat → Int64) (wasN : Nat → Bool) (hadN : Nat → Int64) => r = r2 ∧ LI o olv ova otg olk n lv va tg lk ky al d wN kmN ksN (va_up sz k zN) (va_up sm k mN) (va_up ss k sN) mn mo md hfN mlv mva mtg mlk mky mal op innN scN)) := by
  obtain ⟨N, O, E, rfl, rfl, rfl, rfl, rfl, rfl, rfl, hZ, hO, hP, hS, hF⟩ := h
  have hE := hS.1
  have hN := hO.1
  obtain ⟨k, hk, hkE⟩ : ∃ k, k < 8 ∧ (1 ≤ E → k = E - 1) := by
    rcases Nat.lt_or_ge E 1 with z | z
    · exact ⟨0, by omega, fun y => by omega⟩
    · exact ⟨E - 1, by omega, fun _ => rfl⟩
  refine ⟨k, hk, ?_⟩
  have keep : LI (nI O) olv ova otg olk (nI N) lv va tg lk ky al (nI E) hf km ks (va_up sz k (sz k)) (va_up sm k (sm k)) (va_up ss k (ss k)) (nI N) (nI O) (nI E) hf mlv mva mtg mlk mky mal op inn sc := by
    rw [up_same rfl, up_same rfl, up_same rfl]; exact ⟨N, O, E, rfl, rfl, rfl, rfl, rfl, rfl, rfl, hZ, hO, hP, hS, hF⟩
  have ff : ∀ {b : Bool} {c : Prop}, b = true → b = false → c := fun h1 h2 => absurd (h1.symm.trans h2) (by decide)
  have hz := hZ k (by omega)
  rw [hz] at keep ⊢
  refine sp_up hN hE hkE (fun c => mp_up hO.wf hN hE (fun _ => ⟨rfl, keep⟩) (fun c2 => ff c2 c) (fun c2 => ff c2 c)) (fun c c1 => mp_up hO.wf hN hE (fun c2 => ff c c2) (fun _ _ => ⟨rfl, keep⟩) (fun _ c3 => by omega)) (fun c c1 m' km' c' ks' hk1 hk2 hm hc => mp_up hO.wf hN hE (fun c2 => ff c c2) (fun _ c3 => by omega) (fun _ _ in' sc' was' had' g0 g1 g2 g3 => ?_))
  have hkk := hkE c1
  rw [← hkk] at g0 g1 g2 g3 ⊢
  have h1 := hS.2 k (by omega)
  have hb : ∀ i, i < N → ∀ j, j < N → blw lv (sm k) i j = blw mlv (fun j => inn (200 * k + j)) i j := fun i hi j hj => by
    unfold blw; rw [ro_fb hO hi, h1.1 j hj]
  have hb0 : ∀ i, i < N → ∀ j, i ≤ j → j < N → blw mlv (fun j => inn (200 * k + j)) i j = false := fun i hi j y1 y2 => by
    unfold blw; rw [decide_eq_false (show ¬ j < i by omega)]; simp
  have hcn : ∀ i, i < N → cnt (blw lv (sm k) i) i = cnt (blw mlv (fun j => inn (200 * k + j)) i) N := fun i hi => by
    rw [cnt_ext (show i ≤ N by omega) (fun j y1 y2 => hb0 i hi j y1 y2)]
    exact cnt_congr (fun j hj => hb i hi j (by omega))
  have hvl : ∀ i, i < N → valF p2 (blw lv (sm k) i) (ss k) i = valF p2 (blw mlv (fun j => inn (200 * k + j)) i) (fun j => sc (200 * k + j)) N := fun i hi => by
    rw [valF_ext (show i ≤ N by omega) (fun j y1 y2 => hb0 i hi j y1 y2)]
    refine valF_congr (fun j hj => hb i hi j (by omega)) (fun j hj z => ?_)
    have z2 : sm k j = true := by
      simp only [blw, Bool.and_eq_true] at z; exact z.2.2
    exact h1.2.2 j (by omega) z2
  have hR : R1 N m' c' k in' sc' := by
    refine ⟨fun i hi => ?_, fun i y1 y2 => ?_, fun i hi z => ?_⟩
    · rw [hm i (by omega), g1 i hi, decide_eq_true hi, Bool.true_and, (hO.2.1 i hi).1, hcn i hi]
    · rw [hm i y2, decide_eq_false (by omega), Bool.false_and]
    · have z2 : in' (200 * k + i) = true := by
        rw [g1 i hi, ← (hO.2.1 i hi).1, ← hcn i hi]
        rw [hm i (by omega), decide_eq_true hi, Bool.true_and] at z; exact z
      rw [hc i (by omega) z, g2 i hi z2, hvl i hi]
  have hR8 : R1 N km' ks' 8 in' sc' := by
    refine ⟨fun i hi => ?_, fun i y1 y2 => ?_, fun i hi z => ?_⟩
    · rw [hk1 i (by omega), show 200 * 8 + i = 1600 + i by omega, (g0 i hi).1]; exact h1.1 i hi
    · rw [hk1 i y2]; exact h1.2.1 i y1 y2
    · rw [hk1 i (by omega)] at z
      rw [hk2 i (by omega) z, show 200 * 8 + i = 1600 + i by omega, (g0 i hi).2]; exact h1.2.2 i hi z
  refine ⟨by rw [r1_cnt hR hN], N, O, E, rfl, rfl, rfl, rfl, rfl, rfl, rfl, hZ.up, hO, hP, hS.set hN hE (fun _ => hR) (fun j y1 y2 => y1) (fun j i y1 y2 y3 => g3 _ (by omega) (by omega)), fun _ => hR8⟩
set_option maxHeartbeats 1000000 in
theorem st_down {o : Int32} {olv : Nat → Int32} {ova : Nat → Int32} {otg : Nat → Int32} {olk : Nat → Int32} {n : Int32} {lv : Nat → Int32} {va : Nat → Int32} {tg : Nat → Int32} {lk : Nat → Int32} {ky : Nat → Int32} {al : Nat → Bool} {d : Int32} {w : Bool} {km : Nat → Bool} {ks : Nat → Int64} {sz : Nat → Int32} {sm : Nat → Nat → Bool} {ss : Nat → Nat → Int64} {mn : Int32} {mo : Int32} {md : Int32} {hf : Bool} {mlv : Nat → Int32} {mva : Nat → Int32} {mtg : Nat → Int32} {mlk : Nat → Int32} {mky : Nat → Int32} {mal : Nat → Bool} {op : Nat → Int32} {inn : Nat → Bool} {sc : Nat → Int64} {oky : Nat → Int32} {oal : Nat → Bool} {tz : Int32} {tm : Nat → Bool} {ts : Nat → Int64} {kz : Int32} {rz : Int32} {nu : Nat → Int32} {mr : Nat → Int32} {thr : Int32} {was : Nat → Bool} {had : Nat → Int64} (h : LI o olv ova otg olk n lv va tg lk ky al d w km ks sz sm ss mn mo md hf mlv mva mtg mlk mky mal op inn sc) (p1 : Int32) : ∃ k : Nat, k < 8 ∧ call_X3_down k p1 d n lv tz tm ts (sz k) (sm k) (ss k) (fun (r : Int32) (tzN : Int32) (tmN : Nat → Bool) (tsN : Nat → Int64) (zN : Int32) (mN : Nat → Bool) (sN : Nat → Int64) => call_X4_down p1 thr mn md mlv inn sc was had (fun (r2 : Int32) (thrN : Int32) (innN : Nat → Bool) (scN : Nat → Int64) (wasN : Nat → Bool) (hadN : Nat → Int64) => r = r2 ∧ LI o olv ova otg olk n lv va tg lk ky al d w km ks (va_up sz k zN) (va_up sm k mN) (va_up ss k sN) mn mo md hf mlv mva mtg mlk mky mal op innN scN)) := by
  obtain ⟨N, O, E, rfl, rfl, rfl, rfl, rfl, rfl, rfl, hZ, hO, hP, hS, hF⟩ := h
  have hE := hS.1
  have hN := hO.1
  obtain ⟨k, hk, hkE⟩ : ∃ k, k < 8 ∧ (1 ≤ E → k = E - 1) := by
    rcases Nat.lt_or_ge E 1 with z | z
    · exact ⟨0, by omega, fun y => by omega⟩
    · exact ⟨E - 1, by omega, fun _ => rfl⟩
  refine ⟨k, hk, ?_⟩
  have keep : LI (nI O) olv ova otg olk (nI N) lv va tg lk ky al (nI E) hf km ks (va_up sz k (sz k)) (va_up sm k (sm k)) (va_up ss k (ss k)) (nI N) (nI O) (nI E) hf mlv mva mtg mlk mky mal op inn sc := by
    rw [up_same rfl, up_same rfl, up_same rfl]; exact ⟨N, O, E, rfl, rfl, rfl, rfl, rfl, rfl, rfl, hZ, hO, hP, hS, hF⟩
  have ff : ∀ {b : Bool} {c : Prop}, b = true → b = false → c := fun h1 h2 => absurd (h1.symm.trans h2) (by decide)
  have hz := hZ k (by omega)
  rw [hz] at keep ⊢
  refine sp_down hN hE hkE (fun c => mp_down hO.wf hN hE (fun _ => ⟨rfl, keep⟩) (fun c2 => ff c2 c) (fun c2 => ff c2 c)) (fun c c1 => mp_down hO.wf hN hE (fun c2 => ff c c2) (fun _ _ => ⟨rfl, keep⟩) (fun _ c3 => by omega)) (fun c c1 m' c' _ _ _ hm hc => mp_down hO.wf hN hE (fun c2 => ff c c2) (fun _ c3 => by omega) (fun _ _ in' sc' was' had' g1 g2 g3 => ?_))
  have hkk := hkE c1
  rw [← hkk] at g1 g2 g3 ⊢
  have h1 := hS.2 k (by omega)
  have hb : ∀ i p, p < N → abv lv (sm k) i p = abv mlv (fun j => inn (200 * k + j)) i p := fun i p hp => by
    unfold abv; rw [ro_fb hO hp, h1.1 p hp]
  have hcn : ∀ i, cnt (abv lv (sm k) i) N = cnt (abv mlv (fun j => inn (200 * k + j)) i) N := fun i => cnt_congr (fun p hp => hb i p hp)
  have hvl : ∀ i, sumF (abv lv (sm k) i) (ss k) N = sumF (abv mlv (fun j => inn (200 * k + j)) i) (fun j => sc (200 * k + j)) N := fun i => sumF_congr (fun p hp => hb i p hp) (fun p hp z => by
    have z2 : sm k p = true := by simp only [abv, Bool.and_eq_true] at z; exact z.1
    exact h1.2.2 p hp z2)
  have hR : R1 N m' c' k in' sc' := by
    refine ⟨fun i hi => ?_, fun i y1 y2 => ?_, fun i hi z => ?_⟩
    · rw [hm i (by omega), g1 i hi, (hO.2.1 i hi).1, hcn i]
    · rw [hm i y2, cnt_zero (fun p hp => by unfold abv; rw [decide_eq_false (show ¬ i < p by omega)]; simp)]; simp
    · have z2 : in' (200 * k + i) = true := by
        rw [g1 i hi, ← (hO.2.1 i hi).1, ← hcn i]
        rw [hm i (by omega)] at z; exact z
      rw [hc i (by omega) z, g2 i hi z2, hvl i]
  refine ⟨by rw [r1_cnt hR hN], N, O, E, rfl, rfl, rfl, rfl, rfl, rfl, rfl, hZ.up, hO, hP, hS.set hN hE (fun _ => hR) (fun j y1 y2 => y1) (fun j i y1 y2 y3 => g3 _ (by omega)), fun hw => (hF hw).keep (fun i hi => g3 _ (Or.inr (by omega)))⟩
set_option maxHeartbeats 1000000 in
theorem st_over {o : Int32} {olv : Nat → Int32} {ova : Nat → Int32} {otg : Nat → Int32} {olk : Nat → Int32} {n : Int32} {lv : Nat → Int32} {va : Nat → Int32} {tg : Nat → Int32} {lk : Nat → Int32} {ky : Nat → Int32} {al : Nat → Bool} {d : Int32} {w : Bool} {km : Nat → Bool} {ks : Nat → Int64} {sz : Nat → Int32} {sm : Nat → Nat → Bool} {ss : Nat → Nat → Int64} {mn : Int32} {mo : Int32} {md : Int32} {hf : Bool} {mlv : Nat → Int32} {mva : Nat → Int32} {mtg : Nat → Int32} {mlk : Nat → Int32} {mky : Nat → Int32} {mal : Nat → Bool} {op : Nat → Int32} {inn : Nat → Bool} {sc : Nat → Int64} {oky : Nat → Int32} {oal : Nat → Bool} {tz : Int32} {tm : Nat → Bool} {ts : Nat → Int64} {kz : Int32} {rz : Int32} {nu : Nat → Int32} {mr : Nat → Int32} {thr : Int32} {was : Nat → Bool} {had : Nat → Int64} (h : LI o olv ova otg olk n lv va tg lk ky al d w km ks sz sm ss mn mo md hf mlv mva mtg mlk mky mal op inn sc)  : ∃ k : Nat, k < 8 ∧ call_X3_over k d n lv lk ky al tz tm ts (sz k) (sm k) (ss k) (fun (r : Int32) (tzN : Int32) (tmN : Nat → Bool) (tsN : Nat → Int64) (zN : Int32) (mN : Nat → Bool) (sN : Nat → Int64) => call_X4_over thr mn md mlv mlk mky mal inn sc was had (fun (r2 : Int32) (thrN : Int32) (innN : Nat → Bool) (scN : Nat → Int64) (wasN : Nat → Bool) (hadN : Nat → Int64) => r = r2 ∧ LI o olv ova otg olk n lv va tg lk ky al d w km ks (va_up sz k zN) (va_up sm k mN) (va_up ss k sN) mn mo md hf mlv mva mtg mlk mky mal op innN scN)) := by
  obtain ⟨N, O, E, rfl, rfl, rfl, rfl, rfl, rfl, rfl, hZ, hO, hP, hS, hF⟩ := h
  have hE := hS.1
  have hN := hO.1
  obtain ⟨k, hk, hkE⟩ : ∃ k, k < 8 ∧ (1 ≤ E → k = E - 1) := by
    rcases Nat.lt_or_ge E 1 with z | z
    · exact ⟨0, by omega, fun y => by omega⟩
    · exact ⟨E - 1, by omega, fun _ => rfl⟩
  refine ⟨k, hk, ?_⟩
  have keep : LI (nI O) olv ova otg olk (nI N) lv va tg lk ky al (nI E) hf km ks (va_up sz k (sz k)) (va_up sm k (sm k)) (va_up ss k (ss k)) (nI N) (nI O) (nI E) hf mlv mva mtg mlk mky mal op inn sc := by
    rw [up_same rfl, up_same rfl, up_same rfl]; exact ⟨N, O, E, rfl, rfl, rfl, rfl, rfl, rfl, rfl, hZ, hO, hP, hS, hF⟩
  have hz := hZ k (by omega)
  rw [hz] at keep ⊢
  refine sp_over hN hE hkE (fun c => mp_over hN hE (fun _ => ⟨rfl, keep⟩) (fun c2 => by omega)) (fun c1 m' c' _ _ _ hm hc => mp_over hN hE (fun c3 => by omega) (fun _ in' sc' was' had' g1 g2 g3 => ?_))
  have hkk := hkE c1
  rw [← hkk] at g1 g2 g3 ⊢
  have h1 := hS.2 k (by omega)
  have hb : ∀ i p, i < N → p < N → lnk N lv ky lk al (sm k) i p = lnk N mlv mky mlk mal (fun j => inn (200 * k + j)) i p := fun i p hi hp => by
    obtain ⟨e1, -, -, -, -, e6⟩ := hO.2.1 p hp
    obtain ⟨-, -, -, f4, f5, -⟩ := hO.2.1 i hi
    unfold lnk
    rw [h1.1 p hp, ← e1, f4, f5]
    by_cases c : lv p = 2
    · rw [e6 c]
    · rw [decide_eq_false c]; simp
  have hcn : ∀ i, i < N → cnt (lnk N lv ky lk al (sm k) i) N = cnt (lnk N mlv mky mlk mal (fun j => inn (200 * k + j)) i) N := fun i hi => cnt_congr (fun p hp => hb i p hi hp)
  have hvl : ∀ i, i < N → lastF (lnk N lv ky lk al (sm k) i) (ss k) N = lastF (lnk N mlv mky mlk mal (fun j => inn (200 * k + j)) i) (fun j => sc (200 * k + j)) N := fun i hi => lastF_congr (fun p hp => hb i p hi hp) (fun p hp z => by
    have z2 : sm k p = true := by simp only [lnk, Bool.and_eq_true] at z; exact z.1
    exact h1.2.2 p hp z2)
  have hR : R1 N m' c' k in' sc' := by
    refine ⟨fun i hi => ?_, fun i y1 y2 => ?_, fun i hi z => ?_⟩
    · rw [hm i (by omega), g1 i hi, hcn i hi]
    · rw [hm i y2, cnt_zero (fun p hp => by unfold lnk; rw [decide_eq_false (show ¬ i < N by omega)]; simp)]; simp
    · have z2 : in' (200 * k + i) = true := by
        rw [g1 i hi, ← hcn i hi]
        rw [hm i (by omega)] at z; exact z
      rw [hc i (by omega) z, g2 i hi z2, hvl i hi]
  refine ⟨by rw [r1_cnt hR hN], N, O, E, rfl, rfl, rfl, rfl, rfl, rfl, rfl, hZ.up, hO, hP, hS.set hN hE (fun _ => hR) (fun j y1 y2 => y1) (fun j i y1 y2 y3 => g3 _ (by omega)), fun hw => (hF hw).keep (fun i hi => g3 _ (Or.inr (by omega)))⟩
set_option maxHeartbeats 1000000 in
theorem st_again {o : Int32} {olv : Nat → Int32} {ova : Nat → Int32} {otg : Nat → Int32} {olk : Nat → Int32} {n : Int32} {lv : Nat → Int32} {va : Nat → Int32} {tg : Nat → Int32} {lk : Nat → Int32} {ky : Nat → Int32} {al : Nat → Bool} {d : Int32} {w : Bool} {km : Nat → Bool} {ks : Nat → Int64} {sz : Nat → Int32} {sm : Nat → Nat → Bool} {ss : Nat → Nat → Int64} {mn : Int32} {mo : Int32} {md : Int32} {hf : Bool} {mlv : Nat → Int32} {mva : Nat → Int32} {mtg : Nat → Int32} {mlk : Nat → Int32} {mky : Nat → Int32} {mal : Nat → Bool} {op : Nat → Int32} {inn : Nat → Bool} {sc : Nat → Int64} {oky : Nat → Int32} {oal : Nat → Bool} {tz : Int32} {tm : Nat → Bool} {ts : Nat → Int64} {kz : Int32} {rz : Int32} {nu : Nat → Int32} {mr : Nat → Int32} {thr : Int32} {was : Nat → Bool} {had : Nat → Int64} (h : LI o olv ova otg olk n lv va tg lk ky al d w km ks sz sm ss mn mo md hf mlv mva mtg mlk mky mal op inn sc)  : ∃ k : Nat, k < 7 ∧ call_X3_again (k + 1) k d (sz (k + 1)) (sm (k + 1)) (ss (k + 1)) (sm k) (ss k) (fun (r : Int32) (dN : Int32) (zN : Int32) (mN : Nat → Bool) (sN : Nat → Int64) => call_X4_again thr mn md inn sc (fun (r2 : Int32) (thrN : Int32) (mdN : Int32) (innN : Nat → Bool) (scN : Nat → Int64) => r = r2 ∧ LI o olv ova otg olk n lv va tg lk ky al dN w km ks (va_up sz (k + 1) zN) (va_up sm (k + 1) mN) (va_up ss (k + 1) sN) mn mo mdN hf mlv mva mtg mlk mky mal op innN scN)) := by
  obtain ⟨N, O, E, rfl, rfl, rfl, rfl, rfl, rfl, rfl, hZ, hO, hP, hS, hF⟩ := h
  have hE := hS.1
  have hN := hO.1
  obtain ⟨k, hk, hkE, hkE2⟩ : ∃ k, k < 7 ∧ (1 ≤ E → E < 8 → k = E - 1) ∧ (E < 8 → 1 ≤ E → k + 1 = E) := by
    rcases Nat.lt_or_ge E 1 with z | z
    · exact ⟨0, by omega, fun y => by omega, fun y1 y2 => by omega⟩
    · rcases Nat.lt_or_ge E 8 with y | y
      · exact ⟨E - 1, by omega, fun _ _ => rfl, fun _ _ => by omega⟩
      · exact ⟨0, by omega, fun _ _ => by omega, fun _ _ => by omega⟩
  refine ⟨k, hk, ?_⟩
  have keep : LI (nI O) olv ova otg olk (nI N) lv va tg lk ky al (nI E) hf km ks (va_up sz (k + 1) (sz (k + 1))) (va_up sm (k + 1) (sm (k + 1))) (va_up ss (k + 1) (ss (k + 1))) (nI N) (nI O) (nI E) hf mlv mva mtg mlk mky mal op inn sc := by
    rw [up_same rfl, up_same rfl, up_same rfl]; exact ⟨N, O, E, rfl, rfl, rfl, rfl, rfl, rfl, rfl, hZ, hO, hP, hS, hF⟩
  rcases Nat.lt_or_ge E 1 with z | z
  · refine ⟨fun c => ?_, fun _ => mp_again hN hE (fun _ => ⟨rfl, keep⟩) (fun c2 => by omega) (fun c2 => by omega)⟩
    rw [nI1, nI_leI (by decide) (by omega)] at c; omega
  · rcases Nat.lt_or_ge E 8 with y | y
    · refine sp_again hE (fun c => hkE c y) (fun c => hkE2 c z) (fun c => by omega) (fun c => by omega) (fun c1 c2 m' c' hm hc => mp_again hN hE (fun c3 => by omega) (fun c3 => by omega) (fun _ _ in' sc' g1 g3 => ?_))
      have hkk := hkE2 y z
      have h1 := hS.2 k (by omega)
      have e0 : E - 1 = k := by omega
      rw [← hkk, show k + 1 - 1 = k by omega] at g1
      rw [← hkk] at g3
      have hR : R1 N m' c' (k + 1) in' sc' := by
        refine ⟨fun i hi => ?_, fun i y1 y2 => ?_, fun i hi z => ?_⟩
        · rw [hm i (by omega), (g1 i hi).1]; exact h1.1 i hi
        · rw [hm i y2]; exact h1.2.1 i y1 y2
        · rw [hc i (by omega) z, (g1 i hi).2]
          rw [hm i (by omega)] at z; exact h1.2.2 i hi z
      refine ⟨rfl, N, O, E + 1, rfl, rfl, rfl, rfl, rfl, rfl, rfl, hZ.up, hO, hP, hS.set hN (by omega) (fun _ => hR) (fun j y1 y2 => by omega) (fun j i y1 y2 y3 => g3 _ (Or.inl (by omega))), fun hw => (hF hw).keep (fun i hi => g3 _ (Or.inr (by omega)))⟩
    · refine ⟨fun _ => ⟨fun c => ?_, fun _ => mp_again hN hE (fun c2 => by omega) (fun _ => ⟨rfl, keep⟩) (fun _ c2 => by omega)⟩, fun c => ?_⟩
      · rw [nI8, nI_ltI (by omega) (by decide)] at c; omega
      · rw [nI1, nI_leI (by decide) (by omega)] at c; omega
set_option maxHeartbeats 1000000 in
theorem st_pop {o : Int32} {olv : Nat → Int32} {ova : Nat → Int32} {otg : Nat → Int32} {olk : Nat → Int32} {n : Int32} {lv : Nat → Int32} {va : Nat → Int32} {tg : Nat → Int32} {lk : Nat → Int32} {ky : Nat → Int32} {al : Nat → Bool} {d : Int32} {w : Bool} {km : Nat → Bool} {ks : Nat → Int64} {sz : Nat → Int32} {sm : Nat → Nat → Bool} {ss : Nat → Nat → Int64} {mn : Int32} {mo : Int32} {md : Int32} {hf : Bool} {mlv : Nat → Int32} {mva : Nat → Int32} {mtg : Nat → Int32} {mlk : Nat → Int32} {mky : Nat → Int32} {mal : Nat → Bool} {op : Nat → Int32} {inn : Nat → Bool} {sc : Nat → Int64} {oky : Nat → Int32} {oal : Nat → Bool} {tz : Int32} {tm : Nat → Bool} {ts : Nat → Int64} {kz : Int32} {rz : Int32} {nu : Nat → Int32} {mr : Nat → Int32} {thr : Int32} {was : Nat → Bool} {had : Nat → Int64} (h : LI o olv ova otg olk n lv va tg lk ky al d w km ks sz sm ss mn mo md hf mlv mva mtg mlk mky mal op inn sc)  : call_X3_pop d (fun (r : Int32) (dN : Int32) => call_X4_pop thr md (fun (r2 : Int32) (thrN : Int32) (mdN : Int32) => r = r2 ∧ LI o olv ova otg olk n lv va tg lk ky al dN w km ks sz sm ss mn mo mdN hf mlv mva mtg mlk mky mal op inn sc)) := by
  obtain ⟨N, O, E, rfl, rfl, rfl, rfl, rfl, rfl, rfl, hZ, hO, hP, hS, hF⟩ := h
  have hE := hS.1
  exact sp_pop hE (fun c => mp_pop hE (fun _ => ⟨rfl, ⟨N, O, E, rfl, rfl, rfl, rfl, rfl, rfl, rfl, hZ, hO, hP, hS, hF⟩⟩) (fun c2 => by omega)) (fun c => mp_pop hE (fun c2 => by omega) (fun _ => ⟨rfl, N, O, E - 1, rfl, rfl, rfl, rfl, rfl, rfl, rfl, hZ, hO, hP, ⟨by omega, fun k hk => hS.2 k (by omega)⟩, hF⟩))
set_option maxHeartbeats 1000000 in
theorem st_hit {o : Int32} {olv : Nat → Int32} {ova : Nat → Int32} {otg : Nat → Int32} {olk : Nat → Int32} {n : Int32} {lv : Nat → Int32} {va : Nat → Int32} {tg : Nat → Int32} {lk : Nat → Int32} {ky : Nat → Int32} {al : Nat → Bool} {d : Int32} {w : Bool} {km : Nat → Bool} {ks : Nat → Int64} {sz : Nat → Int32} {sm : Nat → Nat → Bool} {ss : Nat → Nat → Int64} {mn : Int32} {mo : Int32} {md : Int32} {hf : Bool} {mlv : Nat → Int32} {mva : Nat → Int32} {mtg : Nat → Int32} {mlk : Nat → Int32} {mky : Nat → Int32} {mal : Nat → Bool} {op : Nat → Int32} {inn : Nat → Bool} {sc : Nat → Int64} {oky : Nat → Int32} {oal : Nat → Bool} {tz : Int32} {tm : Nat → Bool} {ts : Nat → Int64} {kz : Int32} {rz : Int32} {nu : Nat → Int32} {mr : Nat → Int32} {thr : Int32} {was : Nat → Bool} {had : Nat → Int64} (h : LI o olv ova otg olk n lv va tg lk ky al d w km ks sz sm ss mn mo md hf mlv mva mtg mlk mky mal op inn sc) (p1 : Int32) : ∃ k : Nat, k < 8 ∧ call_X3_hit k p1 d n rz nu mr (sm k) (ss k) (fun (r : Int32) (rzN : Int32) (nuN : Nat → Int32) (mrN : Nat → Int32) => call_X4_hit p1 thr mn md mlv inn sc (fun (r2 : Int32) (thrN : Int32) => r = r2 ∧ LI o olv ova otg olk n lv va tg lk ky al d w km ks sz sm ss mn mo md hf mlv mva mtg mlk mky mal op inn sc)) := by
  obtain ⟨N, O, E, rfl, rfl, rfl, rfl, rfl, rfl, rfl, hZ, hO, hP, hS, hF⟩ := h
  have hE := hS.1
  have hN := hO.1
  obtain ⟨k, hk, hkE⟩ : ∃ k, k < 8 ∧ (1 ≤ E → k = E - 1) := by
    rcases Nat.lt_or_ge E 1 with z | z
    · exact ⟨0, by omega, fun y => by omega⟩
    · exact ⟨E - 1, by omega, fun _ => rfl⟩
  refine ⟨k, hk, ?_⟩
  refine sp_hit hN hE hkE (fun c => mp_hit hN hE (fun _ => ⟨rfl, ⟨N, O, E, rfl, rfl, rfl, rfl, rfl, rfl, rfl, hZ, hO, hP, hS, hF⟩⟩) (fun c2 => by omega)) (fun c L _ _ _ hL => mp_hit hN hE (fun c2 => by omega) (fun _ => ⟨?_, ⟨N, O, E, rfl, rfl, rfl, rfl, rfl, rfl, rfl, hZ, hO, hP, hS, hF⟩⟩))
  have hkk := hkE c
  have h1 := hS.2 k (by omega)
  rw [← hkk]
  have hL2 := hL.congr (R := fun i => inn (200 * k + i)) (sd := fun i => sc (200 * k + i)) (fun i _ hi => h1.1 i hi) (fun i _ hi z => h1.2.2 i hi z)
  exact rk_ans hL2 (by omega) p1
set_option maxHeartbeats 1000000 in
theorem st_score {o : Int32} {olv : Nat → Int32} {ova : Nat → Int32} {otg : Nat → Int32} {olk : Nat → Int32} {n : Int32} {lv : Nat → Int32} {va : Nat → Int32} {tg : Nat → Int32} {lk : Nat → Int32} {ky : Nat → Int32} {al : Nat → Bool} {d : Int32} {w : Bool} {km : Nat → Bool} {ks : Nat → Int64} {sz : Nat → Int32} {sm : Nat → Nat → Bool} {ss : Nat → Nat → Int64} {mn : Int32} {mo : Int32} {md : Int32} {hf : Bool} {mlv : Nat → Int32} {mva : Nat → Int32} {mtg : Nat → Int32} {mlk : Nat → Int32} {mky : Nat → Int32} {mal : Nat → Bool} {op : Nat → Int32} {inn : Nat → Bool} {sc : Nat → Int64} {oky : Nat → Int32} {oal : Nat → Bool} {tz : Int32} {tm : Nat → Bool} {ts : Nat → Int64} {kz : Int32} {rz : Int32} {nu : Nat → Int32} {mr : Nat → Int32} {thr : Int32} {was : Nat → Bool} {had : Nat → Int64} (h : LI o olv ova otg olk n lv va tg lk ky al d w km ks sz sm ss mn mo md hf mlv mva mtg mlk mky mal op inn sc) (p1 : Int32) : ∃ k : Nat, k < 8 ∧ call_X3_score k p1 d (sm k) (ss k) (fun (r : Int64)  => call_X4_score p1 thr mn md inn sc (fun (r2 : Int64) (thrN : Int32) => r = r2 ∧ LI o olv ova otg olk n lv va tg lk ky al d w km ks sz sm ss mn mo md hf mlv mva mtg mlk mky mal op inn sc)) := by
  obtain ⟨N, O, E, rfl, rfl, rfl, rfl, rfl, rfl, rfl, hZ, hO, hP, hS, hF⟩ := h
  have hE := hS.1
  have hN := hO.1
  obtain ⟨k, hk, hkE⟩ : ∃ k, k < 8 ∧ (1 ≤ E → k = E - 1) := by
    rcases Nat.lt_or_ge E 1 with z | z
    · exact ⟨0, by omega, fun y => by omega⟩
    · exact ⟨E - 1, by omega, fun _ => rfl⟩
  refine ⟨k, hk, ?_⟩
  refine sp_score hE hkE (fun c => mp_score hN hE (fun _ => ⟨rfl, ⟨N, O, E, rfl, rfl, rfl, rfl, rfl, rfl, rfl, hZ, hO, hP, hS, hF⟩⟩) (fun c2 => by omega) (fun c2 => by omega)) (fun c q => mp_score hN hE (fun c2 => by omega) (fun _ _ => ⟨rfl, ⟨N, O, E, rfl, rfl, rfl, rfl, rfl, rfl, rfl, hZ, hO, hP, hS, hF⟩⟩) (fun _ j hj e z => ?_)) (fun c j hj e q => mp_score hN hE (fun c2 => by omega) (fun _ z => ?_) (fun _ j2 hj2 e2 z => ⟨?_, ⟨N, O, E, rfl, rfl, rfl, rfl, rfl, rfl, rfl, hZ, hO, hP, hS, hF⟩⟩))
  · have hkk := hkE c
    have h1 := hS.2 k (by omega)
    rw [← hkk, ← h1.1 j hj, q j (by omega) e] at z; exact absurd z (by decide)
  · have hkk := hkE c
    have h1 := hS.2 k (by omega)
    rcases Nat.lt_or_ge j N with y | y
    · have := z j y e
      rw [← hkk, ← h1.1 j y, q] at this; exact absurd this (by decide)
    · rw [h1.2.1 j y hj] at q; exact absurd q (by decide)
  · have hkk := hkE c
    have h1 := hS.2 k (by omega)
    rw [e, nI_eq (by omega) (by omega)] at e2
    subst e2
    rw [← hkk]; exact h1.2.2 j hj2 q
set_option maxHeartbeats 1000000 in
theorem st_family {o : Int32} {olv : Nat → Int32} {ova : Nat → Int32} {otg : Nat → Int32} {olk : Nat → Int32} {n : Int32} {lv : Nat → Int32} {va : Nat → Int32} {tg : Nat → Int32} {lk : Nat → Int32} {ky : Nat → Int32} {al : Nat → Bool} {d : Int32} {w : Bool} {km : Nat → Bool} {ks : Nat → Int64} {sz : Nat → Int32} {sm : Nat → Nat → Bool} {ss : Nat → Nat → Int64} {mn : Int32} {mo : Int32} {md : Int32} {hf : Bool} {mlv : Nat → Int32} {mva : Nat → Int32} {mtg : Nat → Int32} {mlk : Nat → Int32} {mky : Nat → Int32} {mal : Nat → Bool} {op : Nat → Int32} {inn : Nat → Bool} {sc : Nat → Int64} {oky : Nat → Int32} {oal : Nat → Bool} {tz : Int32} {tm : Nat → Bool} {ts : Nat → Int64} {kz : Int32} {rz : Int32} {nu : Nat → Int32} {mr : Nat → Int32} {thr : Int32} {was : Nat → Bool} {had : Nat → Int64} (h : LI o olv ova otg olk n lv va tg lk ky al d w km ks sz sm ss mn mo md hf mlv mva mtg mlk mky mal op inn sc) (p1 : Int32) (p2 : Int32) : call_X3_family p1 p2 w n lv km ks rz nu mr (fun (r : Int32) (rzN : Int32) (nuN : Nat → Int32) (mrN : Nat → Int32) => call_X4_family p1 p2 thr mn hf mlv inn sc (fun (r2 : Int32) (thrN : Int32) => r = r2 ∧ LI o olv ova otg olk n lv va tg lk ky al d w km ks sz sm ss mn mo md hf mlv mva mtg mlk mky mal op inn sc)) := by
  obtain ⟨N, O, E, rfl, rfl, rfl, rfl, rfl, rfl, rfl, hZ, hO, hP, hS, hF⟩ := h
  have hN := hO.1
  refine sp_family hN (fun c => mp_family hO.wf hN (fun _ => ⟨rfl, ⟨N, O, E, rfl, rfl, rfl, rfl, rfl, rfl, rfl, hZ, hO, hP, hS, hF⟩⟩) (fun c2 => absurd (c.symm.trans c2) (by decide)) (fun c2 => absurd (c.symm.trans c2) (by decide))) (fun c q => mp_family hO.wf hN (fun c2 => absurd (c.symm.trans c2) (by decide)) (fun _ _ => ⟨rfl, ⟨N, O, E, rfl, rfl, rfl, rfl, rfl, rfl, rfl, hZ, hO, hP, hS, hF⟩⟩) (fun _ a ha e => absurd e (q a ha))) (fun c j hj e L _ _ _ hL => mp_family hO.wf hN (fun c2 => absurd (c.symm.trans c2) (by decide)) (fun _ q => absurd e (q j hj)) (fun _ a ha e2 => ⟨?_, ⟨N, O, E, rfl, rfl, rfl, rfl, rfl, rfl, rfl, hZ, hO, hP, hS, hF⟩⟩))
  rw [e, nI_eq (by omega) (by omega)] at e2
  subst e2
  have h8 := hF c
  have hfb := fb_le lv j
  have hL1 : RK ks (blw lv km j) 0 N L := ⟨by unfold blw; rw [mems_sub hfb (by omega)]; exact hL.1, hL.2⟩
  have hL2 := hL1.congr (R := fun i => inn (1600 + i) && isBb mlv i j) (sd := fun i => sc (1600 + i)) (fun i _ hi => by
    rw [blw_iff]; unfold isBb; rw [ro_fb hO hj, h8.1 i hi]) (fun i _ hi z => by
    simp only [blw, Bool.and_eq_true] at z; exact h8.2.2 i hi z.2.2)
  exact rk_ans hL2 (by omega) p2
