/-! share's arm; the loop -/
section LB
variable {p : Program} {l : Launch} {e : Env} {s : State} {m : MethodId} {below : List Frame} {meth : Method} {c : Code} {b L : Nat} {xs : Nat → Int32} {D : va_G} {cs : Nat → ClassId} {ax am : Nat → Nat} {oa i cells slots sa : Nat}
set_option maxHeartbeats 4000000 in
set_option maxRecDepth 100000 in
theorem la_share (hst : l.stackTraces = false) (F : CallFix p m c cL_law 8 s #[Value.ref b] wsL_law RL) (hK : sK D cs s) (hT : tX (lawA s) sa s s.heap) (hc : cells + 1 ≤ 601024) (hs : slots + 6 ≤ 7293034) (kk : LW p l e s m below meth c b D cs ax am oa i (cells + 1) (slots + 6) 694) : LW p l e s m below meth c b D cs ax am oa i cells slots 651 := by
  intro o olv ova otg olk oky oal n lv va tg lk ky al d w tz tm ts kz km ks rz nu mr sz sm ss thr mn mo md hf mlv mva mtg mlk mky mal op inn sc was had f H locs ls hLI hP hD hS hl
  have hcall := st_share (oky := oky) (oal := oal) (tz := tz) (tm := tm) (ts := ts) (kz := kz) (rz := rz) (nu := nu) (mr := mr) (thr := thr) (was := was) (had := had) (f := f) hLI
  refine lv_aload_n F.1 F.2.1 dL_law_651 rfl (lv_at hl 1 rfl) ?_
  refine lv_aload_n F.1 F.2.1 dL_law_652 rfl (lv_at hl 3 rfl) ?_
  have hP0 : va_P D vwCl ((fM cs am thr mn mo md hf mlv mva mtg mlk mky mal op inn sc was had) ++ (((fX cs ax o olv ova otg olk oky oal n lv va tg lk ky al d w tz tm ts kz km ks rz nu mr sz sm ss) ++ [(oa, .inl (cs 2, 1, .inr (.inl f)))]) ++ [])) H := by rw [List.append_nil]; exact hP
  have hD0 : va_D (lawA s) ((fM cs am thr mn mo md hf mlv mva mtg mlk mky mal op inn sc was had) ++ (((fX cs ax o olv ova otg olk oky oal n lv va tg lk ky al d w tz tm ts kz km ks rz nu mr sz sm ss) ++ [(oa, .inl (cs 2, 1, .inr (.inl f)))]) ++ [])) := by rw [List.append_nil]; exact hD
  have hPc : va_P D vwCl ((fX cs ax o olv ova otg olk oky oal n lv va tg lk ky al d w tz tm ts kz km ks rz nu mr sz sm ss) ++ [(oa, .inl (cs 2, 1, .inr (.inl f)))]) H := va_P_l (va_P_r hP0)
  have hDc : va_D (lawA s) ((fX cs ax o olv ova otg olk oky oal n lv va tg lk ky al d w tz tm ts kz km ks rz nu mr sz sm ss) ++ [(oa, .inl (cs 2, 1, .inr (.inl f)))]) := va_D_l (va_D_r hD0)
  have hFc : ∀ q, va_A ((fX cs ax o olv ova otg olk oky oal n lv va tg lk ky al d w tz tm ts kz km ks rz nu mr sz sm ss) ++ [(oa, .inl (cs 2, 1, .inr (.inl f)))]) H.size q → lawA s q := fun q h => by
    rcases h with ⟨k, e, h⟩ | h
    · exact hDc.2 k (q, e) h
    · exact Nat.le_trans hS.1 h
  refine va_calli (vx_runSW (As := [.ref (ax 0), .ref oa]) (rest := []) F (F_L_share l hst D cs ax oa f o olv ova otg olk oky oal n lv va tg lk ky al d w tz tm ts kz km ks rz nu mr sz sm ss sa _ hcall H.size) (vx_cwSW 2 F.2.2.2.2 gL_law_L_share rfl rfl rfl (by decide +kernel) ⟨Nat.le_of_ble_eq_true rfl, Nat.le_of_ble_eq_true rfl⟩) ⟨fun a U g mk q => ?_, fun U hU hW => ⟨rfl, ⟨by rw [hU], by rw [hU]; exact hPc, sK.moved hW.alike hK, hDc.weaken (fun _ _ _ _ => trivial)⟩, ?_⟩⟩ rfl rfl hl.1 rfl (lv_room (Nat.le_of_ble_eq_true rfl)) dL_law_653 ⟨hc, hs⟩) hS (fun q _ h => hFc q h) hFc (fun k f1 t H1 locs ht hvm hw hB hz1 hk1 hS => ?_)
  · obtain ⟨q0, ⟨q1, qP, qK, qD⟩, qT⟩ := q
    exact ⟨q0, ⟨q1, qP, sK.moved (u := U) (U := U.calling g mk a) (Vm.Alike.refl U.vm) qK, qD⟩, qT.blind⟩
  · rw [hU]; exact (tX.warm hW (hT.kept hS.2.1)).narrow hFc
  obtain ⟨hP1, hK1, hD1⟩ := hB
  rw [ht] at hP1
  obtain ⟨hP, hD⟩ := xd_join (wl := (fM cs am thr mn mo md hf mlv mva mtg mlk mky mal op inn sc was had)) (wr := []) (w1 := (fX cs ax o olv ova otg olk oky oal n lv va tg lk ky al d w tz tm ts kz km ks rz nu mr sz sm ss) ++ [(oa, .inl (cs 2, 1, .inr (.inl f1)))]) hP0 hD0 hk1 hFc hP1 hD1
  rw [List.append_nil] at hP hD
  refine lv_istore (lv' := [(5, .int k), (0, .ref b), (1, .ref (ax 0)), (2, .ref (am 0)), (3, .ref oa), (4, .int (nI i))]) F.1 F.2.1 dL_law_656 hl (by decide) rfl (fun ls hl => ?_)
  refine lv_aload_n F.1 F.2.1 dL_law_658 rfl (lv_at hl 3 rfl) ?_
  refine xd_Ml (wc := (fM cs am thr mn mo md hf mlv mva mtg mlk mky mal op inn sc was had)) (wr := (fX cs ax o olv ova otg olk oky oal n lv va tg lk ky al d w tz tm ts kz km ks rz nu mr sz sm ss) ++ [(oa, .inl (cs 2, 1, .inr (.inl f1)))]) (As := []) (rest := []) (F_X4_share l D cs am thr mn mo md hf mlv mva mtg mlk mky mal op inn sc was had _ hw) F (cwV 0 F.2.2.2.2 gL_law_X4_share rfl rfl rfl (by decide +kernel) ⟨Nat.le_of_ble_eq_true rfl, Nat.le_of_ble_eq_true rfl⟩) hK hP hD hS (fun _ h => h) 0 rfl rfl rfl hl.1 rfl (Nat.le_of_ble_eq_true rfl) dL_law_659 ⟨hc, hs⟩ (fun bb u2 H locs hw hP hD hS => ?_)
  refine lv_lstore (lv' := [(6, .long bb), (5, .int k), (0, .ref b), (1, .ref (ax 0)), (2, .ref (am 0)), (3, .ref oa), (4, .int (nI i))]) F.1 F.2.1 dL_law_662 hl (by decide) rfl (fun ls hl => ?_)
  refine lv_aload_n F.1 F.2.1 dL_law_664 rfl (lv_at hl 4 rfl) ?_
  refine xd_Mi (wc := (fM cs am u2 mn mo md hf mlv mva mtg mlk mky mal op inn sc was had)) (wr := (fX cs ax o olv ova otg olk oky oal n lv va tg lk ky al d w tz tm ts kz km ks rz nu mr sz sm ss) ++ [(oa, .inl (cs 2, 1, .inr (.inl f1)))]) (As := []) (rest := []) (F_X4_thrown l D cs am u2 mn mo md hf mlv mva mtg mlk mky mal op inn sc was had _ hw) F (cwV 0 F.2.2.2.2 gL_law_X4_thrown rfl rfl rfl (by decide +kernel) ⟨Nat.le_of_ble_eq_true rfl, Nat.le_of_ble_eq_true rfl⟩) hK hP hD hS (fun _ h => h) 0 rfl rfl rfl hl.1 rfl (Nat.le_of_ble_eq_true rfl) dL_law_665 ⟨hc, hs⟩ (fun t2 u3 H locs hw hP hD hS => ?_)
  obtain ⟨rfl, heq⟩ := hw
  refine lv_iload F.1 F.2.1 dL_law_668 (lv_at hl 1 rfl) ?_
  refine lv_icmp_eq (tgt := 675) F.1 F.2.1 dL_law_670 (by decide) (fun _ => ?_) (fun hne => absurd rfl hne)
  refine lv_iload F.1 F.2.1 dL_law_675 (lv_at hl 1 rfl) ?_
  have hend : W p l e room_1 s m #[Value.ref b] below meth c H locs (cells + 1) (slots + 6) (lw_Z below #[Value.ref b] s) (F0 m 691 ls []) := by
    refine lv_goto (tgt := 694) F.1 F.2.1 dL_law_691 (by decide) ?_
    exact kk o olv ova otg olk oky oal n lv va tg lk ky al d w tz tm ts kz km ks rz nu mr sz sm ss u2 mn mo md hf mlv mva mtg mlk mky mal op inn sc was had f1 H locs ls hLI hP hD hS (lv_sub hl [2, 3, 4, 5, 6] rfl)
  refine lv_if_ne (tgt := 691) F.1 F.2.1 dL_law_677 (by decide) (fun _ => hend) (fun c0 => ?_)
  refine lv_aload_n F.1 F.2.1 dL_law_680 rfl (lv_at hl 5 rfl) ?_
  refine lv_iconst (v := 0) F.1 F.2.1 dL_law_681 (by decide) ?_
  refine xi_lald F hK hP 61 rfl (by decide) (j := 0) (by decide) (by decide) dL_law_682 ?_
  refine lv_lload F.1 F.2.1 dL_law_683 (lv_at hl 0 rfl) ?_
  refine xi_lcmp_eq (tgt := 691) F dL_law_685 dL_law_686 (by decide) (fun _ => hend) (fun hne => absurd (heq (by simpa using c0)) hne)
set_option maxHeartbeats 4000000 in
theorem la_next (F : CallFix p m c cL_law 8 s #[Value.ref b] wsL_law RL) (kk : LW p l e s m below meth c b D cs ax am oa (i + 5) cells slots 23) : LW p l e s m below meth c b D cs ax am oa i cells slots 694 := by
  intro o olv ova otg olk oky oal n lv va tg lk ky al d w tz tm ts kz km ks rz nu mr sz sm ss thr mn mo md hf mlv mva mtg mlk mky mal op inn sc was had f H locs ls hLI hP hD hS hl
  refine lv_iinc (v := nI (i + 5)) (lv' := [(4, .int (nI (i + 5))), (0, .ref b), (1, .ref (ax 0)), (2, .ref (am 0)), (3, .ref oa)]) F.1 F.2.1 dL_law_694 hl (k := 4) rfl (nI_add i 5) (by decide) rfl (fun ls hl => ?_)
  refine lv_goto (tgt := 23) F.1 F.2.1 dL_law_697 (by decide) ?_
  exact kk o olv ova otg olk oky oal n lv va tg lk ky al d w tz tm ts kz km ks rz nu mr sz sm ss thr mn mo md hf mlv mva mtg mlk mky mal op inn sc was had f H locs ls hLI hP hD hS (lv_sub hl [1, 2, 3, 4, 0] rfl)
theorem law_in {i L : Nat} (hL : L ≤ 2560) (hi : i ≤ 2565) (h : ¬ nI L - 5 < nI i) : i + 5 ≤ L := by
  rcases Nat.lt_or_ge L (i + 5) with q | q
  · refine absurd (Int32.lt_iff_toInt_lt.mpr ?_) h
    rw [show (5 : Int32) = nI 5 from rfl, pk_sub_toInt (by omega) (by decide), nI_toInt (by omega)]
    omega
  · exact q
set_option maxHeartbeats 4000000 in
set_option maxRecDepth 100000 in
theorem la_head (hst : l.stackTraces = false) (F : CallFix p m c cL_law 8 s #[Value.ref b] wsL_law RL) (hK : sK D cs s) (hT : tX (lawA s) sa s s.heap) (hr : meth.sig.returnType = ret) (hlocks : meth.locks = false) (hX : va_X b L xs s s.heap) (hbl : b < s.heap.size) (hL : L ≤ 2560) (hi9 : i ≤ 2565) (hc : cells + 1 ≤ 601024) (hs : slots + 6 ≤ 7293034) (kk : i + 5 ≤ L → ∀ c1 s1 : Nat, c1 ≤ cells + 1 → s1 ≤ slots + 6 → LW p l e s m below meth c b D cs ax am oa i c1 s1 694) : LW p l e s m below meth c b D cs ax am oa i cells slots 23 := by
  intro o olv ova otg olk oky oal n lv va tg lk ky al d w tz tm ts kz km ks rz nu mr sz sm ss thr mn mo md hf mlv mva mtg mlk mky mal op inn sc was had f H locs ls hLI hP hD hS hl
  refine lv_iload F.1 F.2.1 dL_law_23 (lv_at hl 4 rfl) ?_
  refine lv_aload_n F.1 F.2.1 dL_law_25 rfl (lv_at hl 0 rfl) ?_
  refine va_slen F.1 F.2.1 hX hbl (Nat.not_le.mpr hbl) hS dL_law_26 ?_
  refine lv_iconst (v := 5) F.1 F.2.1 dL_law_27 (by decide) ?_
  refine lv_isub F.1 F.2.1 dL_law_28 ?_
  refine lv_icmp_gt (tgt := 700) F.1 F.2.1 dL_law_29 (by decide) (fun _ => ?_) (fun hg => ?_)
  · refine lv_iconst (v := 1) F.1 F.2.1 dL_law_700 (by decide) ?_
    refine va_forget (fun q hq => hS.2.2 q hq) ?_
    refine W.widen (k := 601024) (n := 7293034) (by omega) (by omega) ?_
    exact lw_ret F.1 F.2.1 hr hlocks dL_law_701
  have hi : i + 5 ≤ L := law_in hL hi9 hg
  refine lv_aload_n F.1 F.2.1 dL_law_32 rfl (lv_at hl 0 rfl) ?_
  refine lv_iload F.1 F.2.1 dL_law_33 (lv_at hl 4 rfl) ?_
  refine xi_sld F hX hbl hS (by omega) (j := i) (by omega) rfl dL_law_35 ?_
  refine lv_bipush (v := 31) F.1 F.2.1 dL_law_36 (by decide) ?_
  refine lv_iand F.1 F.2.1 dL_law_38 ?_
  by_cases hc0 : xs i &&& 31 = 0
  · refine xi_tswIn (tgt := 128) (v := 0) (off := 89) F dL_law_39 hc0 (by decide) ?_
    exact la_child F hK hX hbl hL hi (by omega) (by omega) (kk hi cells slots (by omega) (by omega)) o olv ova otg olk oky oal n lv va tg lk ky al d w tz tm ts kz km ks rz nu mr sz sm ss thr mn mo md hf mlv mva mtg mlk mky mal op inn sc was had f H locs ls hLI hP hD hS hl
  by_cases hc1 : xs i &&& 31 = 1
  · refine xi_tswIn (tgt := 189) (v := 1) (off := 150) F dL_law_39 hc1 (by decide) ?_
    exact la_close F hK hX hbl hL hi (by omega) (by omega) (kk hi cells slots (by omega) (by omega)) o olv ova otg olk oky oal n lv va tg lk ky al d w tz tm ts kz km ks rz nu mr sz sm ss thr mn mo md hf mlv mva mtg mlk mky mal op inn sc was had f H locs ls hLI hP hD hS hl
  by_cases hc2 : xs i &&& 31 = 2
  · refine xi_tswIn (tgt := 250) (v := 2) (off := 211) F dL_law_39 hc2 (by decide) ?_
    exact la_drop F hK hX hbl hL hi (by omega) (by omega) (kk hi cells slots (by omega) (by omega)) o olv ova otg olk oky oal n lv va tg lk ky al d w tz tm ts kz km ks rz nu mr sz sm ss thr mn mo md hf mlv mva mtg mlk mky mal op inn sc was had f H locs ls hLI hP hD hS hl
  by_cases hc3 : xs i &&& 31 = 3
  · refine xi_tswIn (tgt := 263) (v := 3) (off := 224) F dL_law_39 hc3 (by decide) ?_
    exact la_kill F hK hX hbl hL hi (by omega) (by omega) (kk hi cells slots (by omega) (by omega)) o olv ova otg olk oky oal n lv va tg lk ky al d w tz tm ts kz km ks rz nu mr sz sm ss thr mn mo md hf mlv mva mtg mlk mky mal op inn sc was had f H locs ls hLI hP hD hS hl
  by_cases hc4 : xs i &&& 31 = 4
  · refine xi_tswIn (tgt := 288) (v := 4) (off := 249) F dL_law_39 hc4 (by decide) ?_
    exact la_merge F hK hX hbl hL hi (by omega) (by omega) (kk hi cells slots (by omega) (by omega)) o olv ova otg olk oky oal n lv va tg lk ky al d w tz tm ts kz km ks rz nu mr sz sm ss thr mn mo md hf mlv mva mtg mlk mky mal op inn sc was had f H locs ls hLI hP hD hS hl
  by_cases hc5 : xs i &&& 31 = 5
  · refine xi_tswIn (tgt := 301) (v := 5) (off := 262) F dL_law_39 hc5 (by decide) ?_
    exact la_object F hK hX hbl hL hi (by omega) (by omega) (kk hi cells slots (by omega) (by omega)) o olv ova otg olk oky oal n lv va tg lk ky al d w tz tm ts kz km ks rz nu mr sz sm ss thr mn mo md hf mlv mva mtg mlk mky mal op inn sc was had f H locs ls hLI hP hD hS hl
  by_cases hc6 : xs i &&& 31 = 6
  · refine xi_tswIn (tgt := 338) (v := 6) (off := 299) F dL_law_39 hc6 (by decide) ?_
    exact la_count F hK hX hbl hL hi (by omega) (by omega) (kk hi cells slots (by omega) (by omega)) o olv ova otg olk oky oal n lv va tg lk ky al d w tz tm ts kz km ks rz nu mr sz sm ss thr mn mo md hf mlv mva mtg mlk mky mal op inn sc was had f H locs ls hLI hP hD hS hl
  by_cases hc7 : xs i &&& 31 = 7
  · refine xi_tswIn (tgt := 363) (v := 7) (off := 324) F dL_law_39 hc7 (by decide) ?_
    exact la_root F hK hX hbl hL hi (by omega) (by omega) (kk hi cells slots (by omega) (by omega)) o olv ova otg olk oky oal n lv va tg lk ky al d w tz tm ts kz km ks rz nu mr sz sm ss thr mn mo md hf mlv mva mtg mlk mky mal op inn sc was had f H locs ls hLI hP hD hS hl
  by_cases hc8 : xs i &&& 31 = 8
  · refine xi_tswIn (tgt := 388) (v := 8) (off := 349) F dL_law_39 hc8 (by decide) ?_
    exact la_find F hK hX hbl hL hi (by omega) (by omega) (kk hi cells slots (by omega) (by omega)) o olv ova otg olk oky oal n lv va tg lk ky al d w tz tm ts kz km ks rz nu mr sz sm ss thr mn mo md hf mlv mva mtg mlk mky mal op inn sc was had f H locs ls hLI hP hD hS hl
  by_cases hc9 : xs i &&& 31 = 9
  · refine xi_tswIn (tgt := 437) (v := 9) (off := 398) F dL_law_39 hc9 (by decide) ?_
    exact la_join F hK hX hbl hL hi (by omega) (by omega) (kk hi cells slots (by omega) (by omega)) o olv ova otg olk oky oal n lv va tg lk ky al d w tz tm ts kz km ks rz nu mr sz sm ss thr mn mo md hf mlv mva mtg mlk mky mal op inn sc was had f H locs ls hLI hP hD hS hl
  by_cases hc10 : xs i &&& 31 = 10
  · refine xi_tswIn (tgt := 462) (v := 10) (off := 423) F dL_law_39 hc10 (by decide) ?_
    exact la_up F hK hX hbl hL hi (by omega) (by omega) (kk hi cells slots (by omega) (by omega)) o olv ova otg olk oky oal n lv va tg lk ky al d w tz tm ts kz km ks rz nu mr sz sm ss thr mn mo md hf mlv mva mtg mlk mky mal op inn sc was had f H locs ls hLI hP hD hS hl
  by_cases hc11 : xs i &&& 31 = 11
  · refine xi_tswIn (tgt := 499) (v := 11) (off := 460) F dL_law_39 hc11 (by decide) ?_
    exact la_down F hK hX hbl hL hi (by omega) (by omega) (kk hi cells slots (by omega) (by omega)) o olv ova otg olk oky oal n lv va tg lk ky al d w tz tm ts kz km ks rz nu mr sz sm ss thr mn mo md hf mlv mva mtg mlk mky mal op inn sc was had f H locs ls hLI hP hD hS hl
  by_cases hc12 : xs i &&& 31 = 12
  · refine xi_tswIn (tgt := 524) (v := 12) (off := 485) F dL_law_39 hc12 (by decide) ?_
    exact la_over F hK hX hbl hL hi (by omega) (by omega) (kk hi cells slots (by omega) (by omega)) o olv ova otg olk oky oal n lv va tg lk ky al d w tz tm ts kz km ks rz nu mr sz sm ss thr mn mo md hf mlv mva mtg mlk mky mal op inn sc was had f H locs ls hLI hP hD hS hl
  by_cases hc13 : xs i &&& 31 = 13
  · refine xi_tswIn (tgt := 537) (v := 13) (off := 498) F dL_law_39 hc13 (by decide) ?_
    exact la_again F hK hX hbl hL hi (by omega) (by omega) (kk hi cells slots (by omega) (by omega)) o olv ova otg olk oky oal n lv va tg lk ky al d w tz tm ts kz km ks rz nu mr sz sm ss thr mn mo md hf mlv mva mtg mlk mky mal op inn sc was had f H locs ls hLI hP hD hS hl
  by_cases hc14 : xs i &&& 31 = 14
  · refine xi_tswIn (tgt := 550) (v := 14) (off := 511) F dL_law_39 hc14 (by decide) ?_
    exact la_pop F hK hX hbl hL hi (by omega) (by omega) (kk hi cells slots (by omega) (by omega)) o olv ova otg olk oky oal n lv va tg lk ky al d w tz tm ts kz km ks rz nu mr sz sm ss thr mn mo md hf mlv mva mtg mlk mky mal op inn sc was had f H locs ls hLI hP hD hS hl
  by_cases hc15 : xs i &&& 31 = 15
  · refine xi_tswIn (tgt := 563) (v := 15) (off := 524) F dL_law_39 hc15 (by decide) ?_
    exact la_hit F hK hX hbl hL hi (by omega) (by omega) (kk hi cells slots (by omega) (by omega)) o olv ova otg olk oky oal n lv va tg lk ky al d w tz tm ts kz km ks rz nu mr sz sm ss thr mn mo md hf mlv mva mtg mlk mky mal op inn sc was had f H locs ls hLI hP hD hS hl
  by_cases hc16 : xs i &&& 31 = 16
  · refine xi_tswIn (tgt := 588) (v := 16) (off := 549) F dL_law_39 hc16 (by decide) ?_
    exact la_score F hK hX hbl hL hi (by omega) (by omega) (kk hi cells slots (by omega) (by omega)) o olv ova otg olk oky oal n lv va tg lk ky al d w tz tm ts kz km ks rz nu mr sz sm ss thr mn mo md hf mlv mva mtg mlk mky mal op inn sc was had f H locs ls hLI hP hD hS hl
  by_cases hc17 : xs i &&& 31 = 17
  · refine xi_tswIn (tgt := 614) (v := 17) (off := 575) F dL_law_39 hc17 (by decide) ?_
    exact la_family F hK hX hbl hL hi (by omega) (by omega) (kk hi cells slots (by omega) (by omega)) o olv ova otg olk oky oal n lv va tg lk ky al d w tz tm ts kz km ks rz nu mr sz sm ss thr mn mo md hf mlv mva mtg mlk mky mal op inn sc was had f H locs ls hLI hP hD hS hl
  by_cases hc18 : xs i &&& 31 = 18
  · refine xi_tswIn (tgt := 651) (v := 18) (off := 612) F dL_law_39 hc18 (by decide) ?_
    exact la_share hst F hK hT hc hs (kk hi (cells + 1) (slots + 6) (by omega) (by omega)) o olv ova otg olk oky oal n lv va tg lk ky al d w tz tm ts kz km ks rz nu mr sz sm ss thr mn mo md hf mlv mva mtg mlk mky mal op inn sc was had f H locs ls hLI hP hD hS hl
  refine xi_tswOut (tgt := 694) F dL_law_39 (fun k hk => by rcases (show k = 0 ∨ k = 1 ∨ k = 2 ∨ k = 3 ∨ k = 4 ∨ k = 5 ∨ k = 6 ∨ k = 7 ∨ k = 8 ∨ k = 9 ∨ k = 10 ∨ k = 11 ∨ k = 12 ∨ k = 13 ∨ k = 14 ∨ k = 15 ∨ k = 16 ∨ k = 17 ∨ k = 18 by omega) with rfl | rfl | rfl | rfl | rfl | rfl | rfl | rfl | rfl | rfl | rfl | rfl | rfl | rfl | rfl | rfl | rfl | rfl | rfl <;> assumption) (by decide) ?_
  exact kk hi cells slots (by omega) (by omega) o olv ova otg olk oky oal n lv va tg lk ky al d w tz tm ts kz km ks rz nu mr sz sm ss thr mn mo md hf mlv mva mtg mlk mky mal op inn sc was had f H locs ls hLI hP hD hS hl
theorem la_loop (hst : l.stackTraces = false) (F : CallFix p m c cL_law 8 s #[Value.ref b] wsL_law RL) (hK : sK D cs s) (hT : tX (lawA s) sa s s.heap) (hr : meth.sig.returnType = ret) (hlocks : meth.locks = false) (hX : va_X b L xs s s.heap) (hbl : b < s.heap.size) (hL : L ≤ 2560) : ∀ (n i cells slots : Nat), L < i + n → i ≤ 2560 → cells ≤ 62 + i → slots ≤ 11846 + 6 * i → LW p l e s m below meth c b D cs ax am oa i cells slots 23 := by
  intro n
  induction n with
  | zero =>
    intro i cells slots h1 h2 h3 h4
    exact la_head hst F hK hT hr hlocks hX hbl hL (by omega) (by omega) (by omega) (fun q => by omega)
  | succ n ih =>
    intro i cells slots h1 h2 h3 h4
    exact la_head hst F hK hT hr hlocks hX hbl hL (by omega) (by omega) (by omega) (fun q c1 s1 hc1 hs1 => la_next F (ih (i + 5) c1 s1 (by omega) (by omega) (by omega) (by omega)))
end LB
