/-! the arms of the law's switch -/
section LA
variable {p : Program} {l : Launch} {e : Env} {s : State} {m : MethodId} {below : List Frame} {meth : Method} {c : Code} {b L : Nat} {xs : Nat → Int32} {D : va_G} {cs : Nat → ClassId} {ax am : Nat → Nat} {oa i cells slots : Nat}
theorem ix_k {i j k : Nat} (h : j = i + k) : nI i + nI k = nI j := by rw [h]; exact nI_add i k
set_option maxHeartbeats 4000000 in
set_option maxRecDepth 100000 in
theorem la_child (F : CallFix p m c cL_law 8 s #[Value.ref b] wsL_law RL) (hK : sK D cs s) (hX : va_X b L xs s s.heap) (hbl : b < s.heap.size) (hL : L ≤ 2560) (hi : i + 5 ≤ L) (hc : cells ≤ 601024) (hs : slots ≤ 7293034) (kk : LW p l e s m below meth c b D cs ax am oa i cells slots 694) : LW p l e s m below meth c b D cs ax am oa i cells slots 128 := by
  intro o olv ova otg olk oky oal n lv va tg lk ky al d w tz tm ts kz km ks rz nu mr sz sm ss thr mn mo md hf mlv mva mtg mlk mky mal op inn sc was had f H locs ls hLI hP hD hS hl
  have hcall := st_child (oky := oky) (oal := oal) (tz := tz) (tm := tm) (ts := ts) (kz := kz) (rz := rz) (nu := nu) (mr := mr) (thr := thr) (was := was) (had := had) hLI (xs (i + 1)) (xs (i + 2)) (xs (i + 3)) (xs (i + 4))
  refine lv_aload_n F.1 F.2.1 dL_law_128 rfl (lv_at hl 1 rfl) ?_
  refine lv_aload_n F.1 F.2.1 dL_law_129 rfl (lv_at hl 0 rfl) ?_
  refine lv_iload F.1 F.2.1 dL_law_130 (lv_at hl 4 rfl) ?_
  refine lv_iconst (v := 1) F.1 F.2.1 dL_law_132 (by decide) ?_
  refine lv_iadd F.1 F.2.1 dL_law_133 ?_
  refine xi_sld F hX hbl hS (by omega) (j := i + 1) (by omega) (ix_k rfl) dL_law_134 ?_
  refine lv_aload_n F.1 F.2.1 dL_law_135 rfl (lv_at hl 0 rfl) ?_
  refine lv_iload F.1 F.2.1 dL_law_136 (lv_at hl 4 rfl) ?_
  refine lv_iconst (v := 2) F.1 F.2.1 dL_law_138 (by decide) ?_
  refine lv_iadd F.1 F.2.1 dL_law_139 ?_
  refine xi_sld F hX hbl hS (by omega) (j := i + 2) (by omega) (ix_k rfl) dL_law_140 ?_
  refine lv_aload_n F.1 F.2.1 dL_law_141 rfl (lv_at hl 0 rfl) ?_
  refine lv_iload F.1 F.2.1 dL_law_142 (lv_at hl 4 rfl) ?_
  refine lv_iconst (v := 3) F.1 F.2.1 dL_law_144 (by decide) ?_
  refine lv_iadd F.1 F.2.1 dL_law_145 ?_
  refine xi_sld F hX hbl hS (by omega) (j := i + 3) (by omega) (ix_k rfl) dL_law_146 ?_
  refine lv_aload_n F.1 F.2.1 dL_law_147 rfl (lv_at hl 0 rfl) ?_
  refine lv_iload F.1 F.2.1 dL_law_148 (lv_at hl 4 rfl) ?_
  refine lv_iconst (v := 4) F.1 F.2.1 dL_law_150 (by decide) ?_
  refine lv_iadd F.1 F.2.1 dL_law_151 ?_
  refine xi_sld F hX hbl hS (by omega) (j := i + 4) (by omega) (ix_k rfl) dL_law_152 ?_
  refine xd_Vi (wl := (fM cs am thr mn mo md hf mlv mva mtg mlk mky mal op inn sc was had)) (wr := [(oa, .inl (cs 2, 1, .inr (.inl f)))]) (As := [.int (xs (i + 1)), .int (xs (i + 2)), .int (xs (i + 3)), .int (xs (i + 4))]) (rest := []) (F_X3_child l D cs ax o olv ova otg olk oky oal n lv va tg lk ky al d w tz tm ts kz km ks rz nu mr sz sm ss (xs (i + 1)) (xs (i + 2)) (xs (i + 3)) (xs (i + 4))  _ hcall) F (cwV 4 F.2.2.2.2 gL_law_X3_child rfl rfl rfl (by decide +kernel) ⟨Nat.le_of_ble_eq_true rfl, Nat.le_of_ble_eq_true rfl⟩) hK hP hD hS (fun _ h => h) rfl 0 rfl rfl rfl hl.1 rfl (Nat.le_of_ble_eq_true rfl) dL_law_153 ⟨hc, hs⟩ (fun r u1 H locs hw hP hD hS => ?_)
  refine lv_aload_n F.1 F.2.1 dL_law_156 rfl (lv_at hl 2 rfl) ?_
  refine lv_aload_n F.1 F.2.1 dL_law_157 rfl (lv_at hl 0 rfl) ?_
  refine lv_iload F.1 F.2.1 dL_law_158 (lv_at hl 4 rfl) ?_
  refine lv_iconst (v := 1) F.1 F.2.1 dL_law_160 (by decide) ?_
  refine lv_iadd F.1 F.2.1 dL_law_161 ?_
  refine xi_sld F hX hbl hS (by omega) (j := i + 1) (by omega) (ix_k rfl) dL_law_162 ?_
  refine lv_aload_n F.1 F.2.1 dL_law_163 rfl (lv_at hl 0 rfl) ?_
  refine lv_iload F.1 F.2.1 dL_law_164 (lv_at hl 4 rfl) ?_
  refine lv_iconst (v := 2) F.1 F.2.1 dL_law_166 (by decide) ?_
  refine lv_iadd F.1 F.2.1 dL_law_167 ?_
  refine xi_sld F hX hbl hS (by omega) (j := i + 2) (by omega) (ix_k rfl) dL_law_168 ?_
  refine lv_aload_n F.1 F.2.1 dL_law_169 rfl (lv_at hl 0 rfl) ?_
  refine lv_iload F.1 F.2.1 dL_law_170 (lv_at hl 4 rfl) ?_
  refine lv_iconst (v := 3) F.1 F.2.1 dL_law_172 (by decide) ?_
  refine lv_iadd F.1 F.2.1 dL_law_173 ?_
  refine xi_sld F hX hbl hS (by omega) (j := i + 3) (by omega) (ix_k rfl) dL_law_174 ?_
  refine lv_aload_n F.1 F.2.1 dL_law_175 rfl (lv_at hl 0 rfl) ?_
  refine lv_iload F.1 F.2.1 dL_law_176 (lv_at hl 4 rfl) ?_
  refine lv_iconst (v := 4) F.1 F.2.1 dL_law_178 (by decide) ?_
  refine lv_iadd F.1 F.2.1 dL_law_179 ?_
  refine xi_sld F hX hbl hS (by omega) (j := i + 4) (by omega) (ix_k rfl) dL_law_180 ?_
  refine xd_Mi (wc := (fM cs am thr mn mo md hf mlv mva mtg mlk mky mal op inn sc was had)) (wr := fX cs ax u1.1 u1.2.1 u1.2.2.1 u1.2.2.2.1 u1.2.2.2.2.1 u1.2.2.2.2.2.1 u1.2.2.2.2.2.2 n lv va tg lk ky al d w tz tm ts kz km ks rz nu mr sz sm ss ++ [(oa, .inl (cs 2, 1, .inr (.inl f)))]) (As := [.int (xs (i + 1)), .int (xs (i + 2)), .int (xs (i + 3)), .int (xs (i + 4))]) (rest := [.int r]) (F_X4_child l D cs am thr mn mo md hf mlv mva mtg mlk mky mal op inn sc was had (xs (i + 1)) (xs (i + 2)) (xs (i + 3)) (xs (i + 4)) _ hw) F (cwV 4 F.2.2.2.2 gL_law_X4_child rfl rfl rfl (by decide +kernel) ⟨Nat.le_of_ble_eq_true rfl, Nat.le_of_ble_eq_true rfl⟩) hK hP hD hS (fun _ h => h) 0 rfl rfl rfl hl.1 rfl (Nat.le_of_ble_eq_true rfl) dL_law_181 ⟨hc, hs⟩ (fun r2 u2 H locs hw hP hD hS => ?_)
  obtain ⟨rfl, hLI⟩ := hw
  refine lv_icmp_eq (tgt := 694) F.1 F.2.1 dL_law_184 (by decide) (fun _ => ?_) (fun hne => absurd rfl hne)
  exact kk u1.1 u1.2.1 u1.2.2.1 u1.2.2.2.1 u1.2.2.2.2.1 u1.2.2.2.2.2.1 u1.2.2.2.2.2.2 n lv va tg lk ky al d w tz tm ts kz km ks rz nu mr sz sm ss u2.1 mn u2.2.1 md hf mlv mva mtg mlk mky mal u2.2.2 inn sc was had f H locs ls hLI hP hD hS hl
set_option maxHeartbeats 4000000 in
set_option maxRecDepth 100000 in
theorem la_close (F : CallFix p m c cL_law 8 s #[Value.ref b] wsL_law RL) (hK : sK D cs s) (hX : va_X b L xs s s.heap) (hbl : b < s.heap.size) (hL : L ≤ 2560) (hi : i + 5 ≤ L) (hc : cells ≤ 601024) (hs : slots ≤ 7293034) (kk : LW p l e s m below meth c b D cs ax am oa i cells slots 694) : LW p l e s m below meth c b D cs ax am oa i cells slots 189 := by
  intro o olv ova otg olk oky oal n lv va tg lk ky al d w tz tm ts kz km ks rz nu mr sz sm ss thr mn mo md hf mlv mva mtg mlk mky mal op inn sc was had f H locs ls hLI hP hD hS hl
  have hcall := st_close (oky := oky) (oal := oal) (tz := tz) (tm := tm) (ts := ts) (kz := kz) (rz := rz) (nu := nu) (mr := mr) (thr := thr) (was := was) (had := had) hLI (xs (i + 1)) (xs (i + 2)) (xs (i + 3)) (xs (i + 4))
  refine lv_aload_n F.1 F.2.1 dL_law_189 rfl (lv_at hl 1 rfl) ?_
  refine lv_aload_n F.1 F.2.1 dL_law_190 rfl (lv_at hl 0 rfl) ?_
  refine lv_iload F.1 F.2.1 dL_law_191 (lv_at hl 4 rfl) ?_
  refine lv_iconst (v := 1) F.1 F.2.1 dL_law_193 (by decide) ?_
  refine lv_iadd F.1 F.2.1 dL_law_194 ?_
  refine xi_sld F hX hbl hS (by omega) (j := i + 1) (by omega) (ix_k rfl) dL_law_195 ?_
  refine lv_aload_n F.1 F.2.1 dL_law_196 rfl (lv_at hl 0 rfl) ?_
  refine lv_iload F.1 F.2.1 dL_law_197 (lv_at hl 4 rfl) ?_
  refine lv_iconst (v := 2) F.1 F.2.1 dL_law_199 (by decide) ?_
  refine lv_iadd F.1 F.2.1 dL_law_200 ?_
  refine xi_sld F hX hbl hS (by omega) (j := i + 2) (by omega) (ix_k rfl) dL_law_201 ?_
  refine lv_aload_n F.1 F.2.1 dL_law_202 rfl (lv_at hl 0 rfl) ?_
  refine lv_iload F.1 F.2.1 dL_law_203 (lv_at hl 4 rfl) ?_
  refine lv_iconst (v := 3) F.1 F.2.1 dL_law_205 (by decide) ?_
  refine lv_iadd F.1 F.2.1 dL_law_206 ?_
  refine xi_sld F hX hbl hS (by omega) (j := i + 3) (by omega) (ix_k rfl) dL_law_207 ?_
  refine lv_aload_n F.1 F.2.1 dL_law_208 rfl (lv_at hl 0 rfl) ?_
  refine lv_iload F.1 F.2.1 dL_law_209 (lv_at hl 4 rfl) ?_
  refine lv_iconst (v := 4) F.1 F.2.1 dL_law_211 (by decide) ?_
  refine lv_iadd F.1 F.2.1 dL_law_212 ?_
  refine xi_sld F hX hbl hS (by omega) (j := i + 4) (by omega) (ix_k rfl) dL_law_213 ?_
  refine xd_Vi (wl := (fM cs am thr mn mo md hf mlv mva mtg mlk mky mal op inn sc was had)) (wr := [(oa, .inl (cs 2, 1, .inr (.inl f)))]) (As := [.int (xs (i + 1)), .int (xs (i + 2)), .int (xs (i + 3)), .int (xs (i + 4))]) (rest := []) (F_X3_close l D cs ax o olv ova otg olk oky oal n lv va tg lk ky al d w tz tm ts kz km ks rz nu mr sz sm ss (xs (i + 1)) (xs (i + 2)) (xs (i + 3)) (xs (i + 4))  _ hcall) F (cwV 4 F.2.2.2.2 gL_law_X3_close rfl rfl rfl (by decide +kernel) ⟨Nat.le_of_ble_eq_true rfl, Nat.le_of_ble_eq_true rfl⟩) hK hP hD hS (fun _ h => h) rfl 0 rfl rfl rfl hl.1 rfl (Nat.le_of_ble_eq_true rfl) dL_law_214 ⟨hc, hs⟩ (fun r u1 H locs hw hP hD hS => ?_)
  refine lv_aload_n F.1 F.2.1 dL_law_217 rfl (lv_at hl 2 rfl) ?_
  refine lv_aload_n F.1 F.2.1 dL_law_218 rfl (lv_at hl 0 rfl) ?_
  refine lv_iload F.1 F.2.1 dL_law_219 (lv_at hl 4 rfl) ?_
  refine lv_iconst (v := 1) F.1 F.2.1 dL_law_221 (by decide) ?_
  refine lv_iadd F.1 F.2.1 dL_law_222 ?_
  refine xi_sld F hX hbl hS (by omega) (j := i + 1) (by omega) (ix_k rfl) dL_law_223 ?_
  refine lv_aload_n F.1 F.2.1 dL_law_224 rfl (lv_at hl 0 rfl) ?_
  refine lv_iload F.1 F.2.1 dL_law_225 (lv_at hl 4 rfl) ?_
  refine lv_iconst (v := 2) F.1 F.2.1 dL_law_227 (by decide) ?_
  refine lv_iadd F.1 F.2.1 dL_law_228 ?_
  refine xi_sld F hX hbl hS (by omega) (j := i + 2) (by omega) (ix_k rfl) dL_law_229 ?_
  refine lv_aload_n F.1 F.2.1 dL_law_230 rfl (lv_at hl 0 rfl) ?_
  refine lv_iload F.1 F.2.1 dL_law_231 (lv_at hl 4 rfl) ?_
  refine lv_iconst (v := 3) F.1 F.2.1 dL_law_233 (by decide) ?_
  refine lv_iadd F.1 F.2.1 dL_law_234 ?_
  refine xi_sld F hX hbl hS (by omega) (j := i + 3) (by omega) (ix_k rfl) dL_law_235 ?_
  refine lv_aload_n F.1 F.2.1 dL_law_236 rfl (lv_at hl 0 rfl) ?_
  refine lv_iload F.1 F.2.1 dL_law_237 (lv_at hl 4 rfl) ?_
  refine lv_iconst (v := 4) F.1 F.2.1 dL_law_239 (by decide) ?_
  refine lv_iadd F.1 F.2.1 dL_law_240 ?_
  refine xi_sld F hX hbl hS (by omega) (j := i + 4) (by omega) (ix_k rfl) dL_law_241 ?_
  refine xd_Mi (wc := (fM cs am thr mn mo md hf mlv mva mtg mlk mky mal op inn sc was had)) (wr := fX cs ax u1.2.2.1 olv ova otg olk oky oal u1.2.2.2.1 u1.2.2.2.2.1 u1.2.2.2.2.2.1 u1.2.2.2.2.2.2.1 u1.2.2.2.2.2.2.2.1 u1.2.2.2.2.2.2.2.2.1 u1.2.2.2.2.2.2.2.2.2 u1.1 u1.2.1 tz tm ts kz km ks rz nu mr sz sm ss ++ [(oa, .inl (cs 2, 1, .inr (.inl f)))]) (As := [.int (xs (i + 1)), .int (xs (i + 2)), .int (xs (i + 3)), .int (xs (i + 4))]) (rest := [.int r]) (F_X4_close l D cs am thr mn mo md hf mlv mva mtg mlk mky mal op inn sc was had (xs (i + 1)) (xs (i + 2)) (xs (i + 3)) (xs (i + 4)) _ hw) F (cwV 4 F.2.2.2.2 gL_law_X4_close rfl rfl rfl (by decide +kernel) ⟨Nat.le_of_ble_eq_true rfl, Nat.le_of_ble_eq_true rfl⟩) hK hP hD hS (fun _ h => h) 0 rfl rfl rfl hl.1 rfl (Nat.le_of_ble_eq_true rfl) dL_law_242 ⟨hc, hs⟩ (fun r2 u2 H locs hw hP hD hS => ?_)
  obtain ⟨rfl, hLI⟩ := hw
  refine lv_icmp_eq (tgt := 694) F.1 F.2.1 dL_law_245 (by decide) (fun _ => ?_) (fun hne => absurd rfl hne)
  exact kk u1.2.2.1 olv ova otg olk oky oal u1.2.2.2.1 u1.2.2.2.2.1 u1.2.2.2.2.2.1 u1.2.2.2.2.2.2.1 u1.2.2.2.2.2.2.2.1 u1.2.2.2.2.2.2.2.2.1 u1.2.2.2.2.2.2.2.2.2 u1.1 u1.2.1 tz tm ts kz km ks rz nu mr sz sm ss u2.1 u2.2.1 u2.2.2.1 u2.2.2.2.1 u2.2.2.2.2.1 u2.2.2.2.2.2.1 u2.2.2.2.2.2.2.1 u2.2.2.2.2.2.2.2.1 u2.2.2.2.2.2.2.2.2.1 u2.2.2.2.2.2.2.2.2.2.1 u2.2.2.2.2.2.2.2.2.2.2.1 op u2.2.2.2.2.2.2.2.2.2.2.2 sc was had f H locs ls hLI hP hD hS hl
set_option maxHeartbeats 4000000 in
set_option maxRecDepth 100000 in
theorem la_drop (F : CallFix p m c cL_law 8 s #[Value.ref b] wsL_law RL) (hK : sK D cs s) (hX : va_X b L xs s s.heap) (hbl : b < s.heap.size) (hL : L ≤ 2560) (hi : i + 5 ≤ L) (hc : cells ≤ 601024) (hs : slots ≤ 7293034) (kk : LW p l e s m below meth c b D cs ax am oa i cells slots 694) : LW p l e s m below meth c b D cs ax am oa i cells slots 250 := by
  intro o olv ova otg olk oky oal n lv va tg lk ky al d w tz tm ts kz km ks rz nu mr sz sm ss thr mn mo md hf mlv mva mtg mlk mky mal op inn sc was had f H locs ls hLI hP hD hS hl
  have hcall := st_drop (oky := oky) (oal := oal) (tz := tz) (tm := tm) (ts := ts) (kz := kz) (rz := rz) (nu := nu) (mr := mr) (thr := thr) (was := was) (had := had) hLI 
  refine lv_aload_n F.1 F.2.1 dL_law_250 rfl (lv_at hl 1 rfl) ?_
  refine xd_Vi (wl := (fM cs am thr mn mo md hf mlv mva mtg mlk mky mal op inn sc was had)) (wr := [(oa, .inl (cs 2, 1, .inr (.inl f)))]) (As := []) (rest := []) (F_X3_drop l D cs ax o olv ova otg olk oky oal n lv va tg lk ky al d w tz tm ts kz km ks rz nu mr sz sm ss   _ hcall) F (cwV 0 F.2.2.2.2 gL_law_X3_drop rfl rfl rfl (by decide +kernel) ⟨Nat.le_of_ble_eq_true rfl, Nat.le_of_ble_eq_true rfl⟩) hK hP hD hS (fun _ h => h) rfl 0 rfl rfl rfl hl.1 rfl (Nat.le_of_ble_eq_true rfl) dL_law_251 ⟨hc, hs⟩ (fun r u1 H locs hw hP hD hS => ?_)
  refine lv_aload_n F.1 F.2.1 dL_law_254 rfl (lv_at hl 2 rfl) ?_
  refine xd_Mi (wc := (fM cs am thr mn mo md hf mlv mva mtg mlk mky mal op inn sc was had)) (wr := fX cs ax u1 olv ova otg olk oky oal n lv va tg lk ky al d w tz tm ts kz km ks rz nu mr sz sm ss ++ [(oa, .inl (cs 2, 1, .inr (.inl f)))]) (As := []) (rest := [.int r]) (F_X4_drop l D cs am thr mn mo md hf mlv mva mtg mlk mky mal op inn sc was had  _ hw) F (cwV 0 F.2.2.2.2 gL_law_X4_drop rfl rfl rfl (by decide +kernel) ⟨Nat.le_of_ble_eq_true rfl, Nat.le_of_ble_eq_true rfl⟩) hK hP hD hS (fun _ h => h) 0 rfl rfl rfl hl.1 rfl (Nat.le_of_ble_eq_true rfl) dL_law_255 ⟨hc, hs⟩ (fun r2 u2 H locs hw hP hD hS => ?_)
  obtain ⟨rfl, hLI⟩ := hw
  refine lv_icmp_eq (tgt := 694) F.1 F.2.1 dL_law_258 (by decide) (fun _ => ?_) (fun hne => absurd rfl hne)
  exact kk u1 olv ova otg olk oky oal n lv va tg lk ky al d w tz tm ts kz km ks rz nu mr sz sm ss u2.1 mn u2.2 md hf mlv mva mtg mlk mky mal op inn sc was had f H locs ls hLI hP hD hS hl
set_option maxHeartbeats 4000000 in
set_option maxRecDepth 100000 in
theorem la_kill (F : CallFix p m c cL_law 8 s #[Value.ref b] wsL_law RL) (hK : sK D cs s) (hX : va_X b L xs s s.heap) (hbl : b < s.heap.size) (hL : L ≤ 2560) (hi : i + 5 ≤ L) (hc : cells ≤ 601024) (hs : slots ≤ 7293034) (kk : LW p l e s m below meth c b D cs ax am oa i cells slots 694) : LW p l e s m below meth c b D cs ax am oa i cells slots 263 := by
  intro o olv ova otg olk oky oal n lv va tg lk ky al d w tz tm ts kz km ks rz nu mr sz sm ss thr mn mo md hf mlv mva mtg mlk mky mal op inn sc was had f H locs ls hLI hP hD hS hl
  have hcall := st_kill (oky := oky) (oal := oal) (tz := tz) (tm := tm) (ts := ts) (kz := kz) (rz := rz) (nu := nu) (mr := mr) (thr := thr) (was := was) (had := had) hLI (xs (i + 1))
  refine lv_aload_n F.1 F.2.1 dL_law_263 rfl (lv_at hl 1 rfl) ?_
  refine lv_aload_n F.1 F.2.1 dL_law_264 rfl (lv_at hl 0 rfl) ?_
  refine lv_iload F.1 F.2.1 dL_law_265 (lv_at hl 4 rfl) ?_
  refine lv_iconst (v := 1) F.1 F.2.1 dL_law_267 (by decide) ?_
  refine lv_iadd F.1 F.2.1 dL_law_268 ?_
  refine xi_sld F hX hbl hS (by omega) (j := i + 1) (by omega) (ix_k rfl) dL_law_269 ?_
  refine xd_Vi (wl := (fM cs am thr mn mo md hf mlv mva mtg mlk mky mal op inn sc was had)) (wr := [(oa, .inl (cs 2, 1, .inr (.inl f)))]) (As := [.int (xs (i + 1))]) (rest := []) (F_X3_kill l D cs ax o olv ova otg olk oky oal n lv va tg lk ky al d w tz tm ts kz km ks rz nu mr sz sm ss (xs (i + 1))  _ hcall) F (cwV 1 F.2.2.2.2 gL_law_X3_kill rfl rfl rfl (by decide +kernel) ⟨Nat.le_of_ble_eq_true rfl, Nat.le_of_ble_eq_true rfl⟩) hK hP hD hS (fun _ h => h) rfl 0 rfl rfl rfl hl.1 rfl (Nat.le_of_ble_eq_true rfl) dL_law_270 ⟨hc, hs⟩ (fun r u1 H locs hw hP hD hS => ?_)
  refine lv_aload_n F.1 F.2.1 dL_law_273 rfl (lv_at hl 2 rfl) ?_
  refine lv_aload_n F.1 F.2.1 dL_law_274 rfl (lv_at hl 0 rfl) ?_
  refine lv_iload F.1 F.2.1 dL_law_275 (lv_at hl 4 rfl) ?_
  refine lv_iconst (v := 1) F.1 F.2.1 dL_law_277 (by decide) ?_
  refine lv_iadd F.1 F.2.1 dL_law_278 ?_
  refine xi_sld F hX hbl hS (by omega) (j := i + 1) (by omega) (ix_k rfl) dL_law_279 ?_
  refine xd_Mi (wc := (fM cs am thr mn mo md hf mlv mva mtg mlk mky mal op inn sc was had)) (wr := fX cs ax o olv ova otg olk oky oal n lv va tg lk ky u1.2.2 u1.1 u1.2.1 tz tm ts kz km ks rz nu mr sz sm ss ++ [(oa, .inl (cs 2, 1, .inr (.inl f)))]) (As := [.int (xs (i + 1))]) (rest := [.int r]) (F_X4_kill l D cs am thr mn mo md hf mlv mva mtg mlk mky mal op inn sc was had (xs (i + 1)) _ hw) F (cwV 1 F.2.2.2.2 gL_law_X4_kill rfl rfl rfl (by decide +kernel) ⟨Nat.le_of_ble_eq_true rfl, Nat.le_of_ble_eq_true rfl⟩) hK hP hD hS (fun _ h => h) 0 rfl rfl rfl hl.1 rfl (Nat.le_of_ble_eq_true rfl) dL_law_280 ⟨hc, hs⟩ (fun r2 u2 H locs hw hP hD hS => ?_)
  obtain ⟨rfl, hLI⟩ := hw
  refine lv_icmp_eq (tgt := 694) F.1 F.2.1 dL_law_283 (by decide) (fun _ => ?_) (fun hne => absurd rfl hne)
  exact kk o olv ova otg olk oky oal n lv va tg lk ky u1.2.2 u1.1 u1.2.1 tz tm ts kz km ks rz nu mr sz sm ss u2.1 mn mo u2.2.1 u2.2.2.1 mlv mva mtg mlk mky u2.2.2.2 op inn sc was had f H locs ls hLI hP hD hS hl
set_option maxHeartbeats 4000000 in
set_option maxRecDepth 100000 in
theorem la_merge (F : CallFix p m c cL_law 8 s #[Value.ref b] wsL_law RL) (hK : sK D cs s) (hX : va_X b L xs s s.heap) (hbl : b < s.heap.size) (hL : L ≤ 2560) (hi : i + 5 ≤ L) (hc : cells ≤ 601024) (hs : slots ≤ 7293034) (kk : LW p l e s m below meth c b D cs ax am oa i cells slots 694) : LW p l e s m below meth c b D cs ax am oa i cells slots 288 := by
  intro o olv ova otg olk oky oal n lv va tg lk ky al d w tz tm ts kz km ks rz nu mr sz sm ss thr mn mo md hf mlv mva mtg mlk mky mal op inn sc was had f H locs ls hLI hP hD hS hl
  have hcall := st_merge (oky := oky) (oal := oal) (tz := tz) (tm := tm) (ts := ts) (kz := kz) (rz := rz) (nu := nu) (mr := mr) (thr := thr) (was := was) (had := had) hLI 
  refine lv_aload_n F.1 F.2.1 dL_law_288 rfl (lv_at hl 1 rfl) ?_
  refine xd_Vi (wl := (fM cs am thr mn mo md hf mlv mva mtg mlk mky mal op inn sc was had)) (wr := [(oa, .inl (cs 2, 1, .inr (.inl f)))]) (As := []) (rest := []) (F_X3_merge l D cs ax o olv ova otg olk oky oal n lv va tg lk ky al d w tz tm ts kz km ks rz nu mr sz sm ss   _ hcall) F (cwV 0 F.2.2.2.2 gL_law_X3_merge rfl rfl rfl (by decide +kernel) ⟨Nat.le_of_ble_eq_true rfl, Nat.le_of_ble_eq_true rfl⟩) hK hP hD hS (fun _ h => h) rfl 0 rfl rfl rfl hl.1 rfl (Nat.le_of_ble_eq_true rfl) dL_law_289 ⟨hc, hs⟩ (fun r u1 H locs hw hP hD hS => ?_)
  refine lv_aload_n F.1 F.2.1 dL_law_292 rfl (lv_at hl 2 rfl) ?_
  refine xd_Mi (wc := (fM cs am thr mn mo md hf mlv mva mtg mlk mky mal op inn sc was had)) (wr := fX cs ax o olv ova otg olk oky oal u1.2.2.1 u1.2.2.2.1 u1.2.2.2.2.1 u1.2.2.2.2.2.1 u1.2.2.2.2.2.2.1 u1.2.2.2.2.2.2.2.1 u1.2.2.2.2.2.2.2.2 u1.1 u1.2.1 tz tm ts kz km ks rz nu mr sz sm ss ++ [(oa, .inl (cs 2, 1, .inr (.inl f)))]) (As := []) (rest := [.int r]) (F_X4_merge l D cs am thr mn mo md hf mlv mva mtg mlk mky mal op inn sc was had  _ hw) F (cwV 0 F.2.2.2.2 gL_law_X4_merge rfl rfl rfl (by decide +kernel) ⟨Nat.le_of_ble_eq_true rfl, Nat.le_of_ble_eq_true rfl⟩) hK hP hD hS (fun _ h => h) 0 rfl rfl rfl hl.1 rfl (Nat.le_of_ble_eq_true rfl) dL_law_293 ⟨hc, hs⟩ (fun r2 u2 H locs hw hP hD hS => ?_)
  obtain ⟨rfl, hLI⟩ := hw
  refine lv_icmp_eq (tgt := 694) F.1 F.2.1 dL_law_296 (by decide) (fun _ => ?_) (fun hne => absurd rfl hne)
  exact kk o olv ova otg olk oky oal u1.2.2.1 u1.2.2.2.1 u1.2.2.2.2.1 u1.2.2.2.2.2.1 u1.2.2.2.2.2.2.1 u1.2.2.2.2.2.2.2.1 u1.2.2.2.2.2.2.2.2 u1.1 u1.2.1 tz tm ts kz km ks rz nu mr sz sm ss u2.1 u2.2.1 mo u2.2.2.1 u2.2.2.2.1 u2.2.2.2.2.1 u2.2.2.2.2.2.1 u2.2.2.2.2.2.2.1 u2.2.2.2.2.2.2.2.1 u2.2.2.2.2.2.2.2.2.1 u2.2.2.2.2.2.2.2.2.2 op inn sc was had f H locs ls hLI hP hD hS hl
set_option maxHeartbeats 4000000 in
set_option maxRecDepth 100000 in
theorem la_object (F : CallFix p m c cL_law 8 s #[Value.ref b] wsL_law RL) (hK : sK D cs s) (hX : va_X b L xs s s.heap) (hbl : b < s.heap.size) (hL : L ≤ 2560) (hi : i + 5 ≤ L) (hc : cells ≤ 601024) (hs : slots ≤ 7293034) (kk : LW p l e s m below meth c b D cs ax am oa i cells slots 694) : LW p l e s m below meth c b D cs ax am oa i cells slots 301 := by
  intro o olv ova otg olk oky oal n lv va tg lk ky al d w tz tm ts kz km ks rz nu mr sz sm ss thr mn mo md hf mlv mva mtg mlk mky mal op inn sc was had f H locs ls hLI hP hD hS hl
  have hcall := st_object (oky := oky) (oal := oal) (tz := tz) (tm := tm) (ts := ts) (kz := kz) (rz := rz) (nu := nu) (mr := mr) (thr := thr) (was := was) (had := had) hLI (xs (i + 1)) (xs (i + 2))
  refine lv_aload_n F.1 F.2.1 dL_law_301 rfl (lv_at hl 1 rfl) ?_
  refine lv_aload_n F.1 F.2.1 dL_law_302 rfl (lv_at hl 0 rfl) ?_
  refine lv_iload F.1 F.2.1 dL_law_303 (lv_at hl 4 rfl) ?_
  refine lv_iconst (v := 1) F.1 F.2.1 dL_law_305 (by decide) ?_
  refine lv_iadd F.1 F.2.1 dL_law_306 ?_
  refine xi_sld F hX hbl hS (by omega) (j := i + 1) (by omega) (ix_k rfl) dL_law_307 ?_
  refine lv_aload_n F.1 F.2.1 dL_law_308 rfl (lv_at hl 0 rfl) ?_
  refine lv_iload F.1 F.2.1 dL_law_309 (lv_at hl 4 rfl) ?_
  refine lv_iconst (v := 2) F.1 F.2.1 dL_law_311 (by decide) ?_
  refine lv_iadd F.1 F.2.1 dL_law_312 ?_
  refine xi_sld F hX hbl hS (by omega) (j := i + 2) (by omega) (ix_k rfl) dL_law_313 ?_
  refine xd_Vi (wl := (fM cs am thr mn mo md hf mlv mva mtg mlk mky mal op inn sc was had)) (wr := [(oa, .inl (cs 2, 1, .inr (.inl f)))]) (As := [.int (xs (i + 1)), .int (xs (i + 2))]) (rest := []) (F_X3_object l D cs ax o olv ova otg olk oky oal n lv va tg lk ky al d w tz tm ts kz km ks rz nu mr sz sm ss (xs (i + 1)) (xs (i + 2))  _ hcall) F (cwV 2 F.2.2.2.2 gL_law_X3_object rfl rfl rfl (by decide +kernel) ⟨Nat.le_of_ble_eq_true rfl, Nat.le_of_ble_eq_true rfl⟩) hK hP hD hS (fun _ h => h) rfl 0 rfl rfl rfl hl.1 rfl (Nat.le_of_ble_eq_true rfl) dL_law_314 ⟨hc, hs⟩ (fun r u1 H locs hw hP hD hS => ?_)
  refine lv_aload_n F.1 F.2.1 dL_law_317 rfl (lv_at hl 2 rfl) ?_
  refine lv_aload_n F.1 F.2.1 dL_law_318 rfl (lv_at hl 0 rfl) ?_
  refine lv_iload F.1 F.2.1 dL_law_319 (lv_at hl 4 rfl) ?_
  refine lv_iconst (v := 1) F.1 F.2.1 dL_law_321 (by decide) ?_
  refine lv_iadd F.1 F.2.1 dL_law_322 ?_
  refine xi_sld F hX hbl hS (by omega) (j := i + 1) (by omega) (ix_k rfl) dL_law_323 ?_
  refine lv_aload_n F.1 F.2.1 dL_law_324 rfl (lv_at hl 0 rfl) ?_
  refine lv_iload F.1 F.2.1 dL_law_325 (lv_at hl 4 rfl) ?_
  refine lv_iconst (v := 2) F.1 F.2.1 dL_law_327 (by decide) ?_
  refine lv_iadd F.1 F.2.1 dL_law_328 ?_
  refine xi_sld F hX hbl hS (by omega) (j := i + 2) (by omega) (ix_k rfl) dL_law_329 ?_
  refine xd_Mi (wc := (fM cs am thr mn mo md hf mlv mva mtg mlk mky mal op inn sc was had)) (wr := fX cs ax o olv ova otg olk oky oal n lv va tg lk ky al d w tz tm ts kz km ks rz nu mr sz sm ss ++ [(oa, .inl (cs 2, 1, .inr (.inl f)))]) (As := [.int (xs (i + 1)), .int (xs (i + 2))]) (rest := [.int r]) (F_X4_object l D cs am thr mn mo md hf mlv mva mtg mlk mky mal op inn sc was had (xs (i + 1)) (xs (i + 2)) _ hw) F (cwV 2 F.2.2.2.2 gL_law_X4_object rfl rfl rfl (by decide +kernel) ⟨Nat.le_of_ble_eq_true rfl, Nat.le_of_ble_eq_true rfl⟩) hK hP hD hS (fun _ h => h) 0 rfl rfl rfl hl.1 rfl (Nat.le_of_ble_eq_true rfl) dL_law_330 ⟨hc, hs⟩ (fun r2 u2 H locs hw hP hD hS => ?_)
  obtain ⟨rfl, hLI⟩ := hw
  refine lv_icmp_eq (tgt := 694) F.1 F.2.1 dL_law_333 (by decide) (fun _ => ?_) (fun hne => absurd rfl hne)
  exact kk o olv ova otg olk oky oal n lv va tg lk ky al d w tz tm ts kz km ks rz nu mr sz sm ss u2 mn mo md hf mlv mva mtg mlk mky mal op inn sc was had f H locs ls hLI hP hD hS hl
set_option maxHeartbeats 4000000 in
set_option maxRecDepth 100000 in
theorem la_count (F : CallFix p m c cL_law 8 s #[Value.ref b] wsL_law RL) (hK : sK D cs s) (hX : va_X b L xs s s.heap) (hbl : b < s.heap.size) (hL : L ≤ 2560) (hi : i + 5 ≤ L) (hc : cells ≤ 601024) (hs : slots ≤ 7293034) (kk : LW p l e s m below meth c b D cs ax am oa i cells slots 694) : LW p l e s m below meth c b D cs ax am oa i cells slots 338 := by
  intro o olv ova otg olk oky oal n lv va tg lk ky al d w tz tm ts kz km ks rz nu mr sz sm ss thr mn mo md hf mlv mva mtg mlk mky mal op inn sc was had f H locs ls hLI hP hD hS hl
  have hcall := st_count (oky := oky) (oal := oal) (tz := tz) (tm := tm) (ts := ts) (kz := kz) (rz := rz) (nu := nu) (mr := mr) (thr := thr) (was := was) (had := had) hLI (xs (i + 1))
  refine lv_aload_n F.1 F.2.1 dL_law_338 rfl (lv_at hl 1 rfl) ?_
  refine lv_aload_n F.1 F.2.1 dL_law_339 rfl (lv_at hl 0 rfl) ?_
  refine lv_iload F.1 F.2.1 dL_law_340 (lv_at hl 4 rfl) ?_
  refine lv_iconst (v := 1) F.1 F.2.1 dL_law_342 (by decide) ?_
  refine lv_iadd F.1 F.2.1 dL_law_343 ?_
  refine xi_sld F hX hbl hS (by omega) (j := i + 1) (by omega) (ix_k rfl) dL_law_344 ?_
  refine xd_Vi (wl := (fM cs am thr mn mo md hf mlv mva mtg mlk mky mal op inn sc was had)) (wr := [(oa, .inl (cs 2, 1, .inr (.inl f)))]) (As := [.int (xs (i + 1))]) (rest := []) (F_X3_count l D cs ax o olv ova otg olk oky oal n lv va tg lk ky al d w tz tm ts kz km ks rz nu mr sz sm ss (xs (i + 1))  _ hcall) F (cwV 1 F.2.2.2.2 gL_law_X3_count rfl rfl rfl (by decide +kernel) ⟨Nat.le_of_ble_eq_true rfl, Nat.le_of_ble_eq_true rfl⟩) hK hP hD hS (fun _ h => h) rfl 0 rfl rfl rfl hl.1 rfl (Nat.le_of_ble_eq_true rfl) dL_law_345 ⟨hc, hs⟩ (fun r u1 H locs hw hP hD hS => ?_)
  refine lv_aload_n F.1 F.2.1 dL_law_348 rfl (lv_at hl 2 rfl) ?_
  refine lv_aload_n F.1 F.2.1 dL_law_349 rfl (lv_at hl 0 rfl) ?_
  refine lv_iload F.1 F.2.1 dL_law_350 (lv_at hl 4 rfl) ?_
  refine lv_iconst (v := 1) F.1 F.2.1 dL_law_352 (by decide) ?_
  refine lv_iadd F.1 F.2.1 dL_law_353 ?_
  refine xi_sld F hX hbl hS (by omega) (j := i + 1) (by omega) (ix_k rfl) dL_law_354 ?_
  refine xd_Mi (wc := (fM cs am thr mn mo md hf mlv mva mtg mlk mky mal op inn sc was had)) (wr := fX cs ax o olv ova otg olk oky oal n lv va tg lk ky al d w tz tm ts kz km ks rz nu mr sz sm ss ++ [(oa, .inl (cs 2, 1, .inr (.inl f)))]) (As := [.int (xs (i + 1))]) (rest := [.int r]) (F_X4_count l D cs am thr mn mo md hf mlv mva mtg mlk mky mal op inn sc was had (xs (i + 1)) _ hw) F (cwV 1 F.2.2.2.2 gL_law_X4_count rfl rfl rfl (by decide +kernel) ⟨Nat.le_of_ble_eq_true rfl, Nat.le_of_ble_eq_true rfl⟩) hK hP hD hS (fun _ h => h) 0 rfl rfl rfl hl.1 rfl (Nat.le_of_ble_eq_true rfl) dL_law_355 ⟨hc, hs⟩ (fun r2 u2 H locs hw hP hD hS => ?_)
  obtain ⟨rfl, hLI⟩ := hw
  refine lv_icmp_eq (tgt := 694) F.1 F.2.1 dL_law_358 (by decide) (fun _ => ?_) (fun hne => absurd rfl hne)
  exact kk o olv ova otg olk oky oal n lv va tg lk ky al d w tz tm ts kz km ks rz nu mr sz sm ss u2 mn mo md hf mlv mva mtg mlk mky mal op inn sc was had f H locs ls hLI hP hD hS hl
set_option maxHeartbeats 4000000 in
set_option maxRecDepth 100000 in
theorem la_root (F : CallFix p m c cL_law 8 s #[Value.ref b] wsL_law RL) (hK : sK D cs s) (hX : va_X b L xs s s.heap) (hbl : b < s.heap.size) (hL : L ≤ 2560) (hi : i + 5 ≤ L) (hc : cells ≤ 601024) (hs : slots ≤ 7293034) (kk : LW p l e s m below meth c b D cs ax am oa i cells slots 694) : LW p l e s m below meth c b D cs ax am oa i cells slots 363 := by
  intro o olv ova otg olk oky oal n lv va tg lk ky al d w tz tm ts kz km ks rz nu mr sz sm ss thr mn mo md hf mlv mva mtg mlk mky mal op inn sc was had f H locs ls hLI hP hD hS hl
  have hcall := st_root (oky := oky) (oal := oal) (tz := tz) (tm := tm) (ts := ts) (kz := kz) (rz := rz) (nu := nu) (mr := mr) (thr := thr) (was := was) (had := had) hLI (xs (i + 1))
  refine lv_aload_n F.1 F.2.1 dL_law_363 rfl (lv_at hl 1 rfl) ?_
  refine lv_aload_n F.1 F.2.1 dL_law_364 rfl (lv_at hl 0 rfl) ?_
  refine lv_iload F.1 F.2.1 dL_law_365 (lv_at hl 4 rfl) ?_
  refine lv_iconst (v := 1) F.1 F.2.1 dL_law_367 (by decide) ?_
  refine lv_iadd F.1 F.2.1 dL_law_368 ?_
  refine xi_sld F hX hbl hS (by omega) (j := i + 1) (by omega) (ix_k rfl) dL_law_369 ?_
  refine xd_Vi (wl := (fM cs am thr mn mo md hf mlv mva mtg mlk mky mal op inn sc was had)) (wr := [(oa, .inl (cs 2, 1, .inr (.inl f)))]) (As := [.int (xs (i + 1))]) (rest := []) (F_X3_root l D cs ax o olv ova otg olk oky oal n lv va tg lk ky al d w tz tm ts kz km ks rz nu mr sz sm ss (xs (i + 1))  _ hcall) F (cwV 1 F.2.2.2.2 gL_law_X3_root rfl rfl rfl (by decide +kernel) ⟨Nat.le_of_ble_eq_true rfl, Nat.le_of_ble_eq_true rfl⟩) hK hP hD hS (fun _ h => h) rfl 0 rfl rfl rfl hl.1 rfl (Nat.le_of_ble_eq_true rfl) dL_law_370 ⟨hc, hs⟩ (fun r u1 H locs hw hP hD hS => ?_)
  refine lv_aload_n F.1 F.2.1 dL_law_373 rfl (lv_at hl 2 rfl) ?_
  refine lv_aload_n F.1 F.2.1 dL_law_374 rfl (lv_at hl 0 rfl) ?_
  refine lv_iload F.1 F.2.1 dL_law_375 (lv_at hl 4 rfl) ?_
  refine lv_iconst (v := 1) F.1 F.2.1 dL_law_377 (by decide) ?_
  refine lv_iadd F.1 F.2.1 dL_law_378 ?_
  refine xi_sld F hX hbl hS (by omega) (j := i + 1) (by omega) (ix_k rfl) dL_law_379 ?_
  refine xd_Mi (wc := (fM cs am thr mn mo md hf mlv mva mtg mlk mky mal op inn sc was had)) (wr := fX cs ax o olv ova otg olk oky oal n lv va tg lk ky al d w tz tm ts kz km ks rz nu mr sz sm ss ++ [(oa, .inl (cs 2, 1, .inr (.inl f)))]) (As := [.int (xs (i + 1))]) (rest := [.int r]) (F_X4_root l D cs am thr mn mo md hf mlv mva mtg mlk mky mal op inn sc was had (xs (i + 1)) _ hw) F (cwV 1 F.2.2.2.2 gL_law_X4_root rfl rfl rfl (by decide +kernel) ⟨Nat.le_of_ble_eq_true rfl, Nat.le_of_ble_eq_true rfl⟩) hK hP hD hS (fun _ h => h) 0 rfl rfl rfl hl.1 rfl (Nat.le_of_ble_eq_true rfl) dL_law_380 ⟨hc, hs⟩ (fun r2 u2 H locs hw hP hD hS => ?_)
  obtain ⟨rfl, hLI⟩ := hw
  refine lv_icmp_eq (tgt := 694) F.1 F.2.1 dL_law_383 (by decide) (fun _ => ?_) (fun hne => absurd rfl hne)
  exact kk o olv ova otg olk oky oal n lv va tg lk ky al d w tz tm ts kz km ks rz nu mr sz sm ss u2 mn mo md hf mlv mva mtg mlk mky mal op inn sc was had f H locs ls hLI hP hD hS hl
set_option maxHeartbeats 4000000 in
set_option maxRecDepth 100000 in
theorem la_find (F : CallFix p m c cL_law 8 s #[Value.ref b] wsL_law RL) (hK : sK D cs s) (hX : va_X b L xs s s.heap) (hbl : b < s.heap.size) (hL : L ≤ 2560) (hi : i + 5 ≤ L) (hc : cells ≤ 601024) (hs : slots ≤ 7293034) (kk : LW p l e s m below meth c b D cs ax am oa i cells slots 694) : LW p l e s m below meth c b D cs ax am oa i cells slots 388 := by
  intro o olv ova otg olk oky oal n lv va tg lk ky al d w tz tm ts kz km ks rz nu mr sz sm ss thr mn mo md hf mlv mva mtg mlk mky mal op inn sc was had f H locs ls hLI hP hD hS hl
  obtain ⟨k, hk, hcall⟩ := st_find (oky := oky) (oal := oal) (tz := tz) (tm := tm) (ts := ts) (kz := kz) (rz := rz) (nu := nu) (mr := mr) (thr := thr) (was := was) (had := had) hLI (xs (i + 1)) (xs (i + 2)) (xs (i + 3))
  refine lv_aload_n F.1 F.2.1 dL_law_388 rfl (lv_at hl 1 rfl) ?_
  refine lv_aload_n F.1 F.2.1 dL_law_389 rfl (lv_at hl 0 rfl) ?_
  refine lv_iload F.1 F.2.1 dL_law_390 (lv_at hl 4 rfl) ?_
  refine lv_iconst (v := 1) F.1 F.2.1 dL_law_392 (by decide) ?_
  refine lv_iadd F.1 F.2.1 dL_law_393 ?_
  refine xi_sld F hX hbl hS (by omega) (j := i + 1) (by omega) (ix_k rfl) dL_law_394 ?_
  refine lv_aload_n F.1 F.2.1 dL_law_395 rfl (lv_at hl 0 rfl) ?_
  refine lv_iload F.1 F.2.1 dL_law_396 (lv_at hl 4 rfl) ?_
  refine lv_iconst (v := 2) F.1 F.2.1 dL_law_398 (by decide) ?_
  refine lv_iadd F.1 F.2.1 dL_law_399 ?_
  refine xi_sld F hX hbl hS (by omega) (j := i + 2) (by omega) (ix_k rfl) dL_law_400 ?_
  refine lv_aload_n F.1 F.2.1 dL_law_401 rfl (lv_at hl 0 rfl) ?_
  refine lv_iload F.1 F.2.1 dL_law_402 (lv_at hl 4 rfl) ?_
  refine lv_iconst (v := 3) F.1 F.2.1 dL_law_404 (by decide) ?_
  refine lv_iadd F.1 F.2.1 dL_law_405 ?_
  refine xi_sld F hX hbl hS (by omega) (j := i + 3) (by omega) (ix_k rfl) dL_law_406 ?_
  refine xd_Vi (wl := (fM cs am thr mn mo md hf mlv mva mtg mlk mky mal op inn sc was had)) (wr := [(oa, .inl (cs 2, 1, .inr (.inl f)))]) (As := [.int (xs (i + 1)), .int (xs (i + 2)), .int (xs (i + 3))]) (rest := []) (F_X3_find l D cs ax o olv ova otg olk oky oal n lv va tg lk ky al d w tz tm ts kz km ks rz nu mr sz sm ss (xs (i + 1)) (xs (i + 2)) (xs (i + 3)) k hk _ hcall) F (cwV 3 F.2.2.2.2 gL_law_X3_find rfl rfl rfl (by decide +kernel) ⟨Nat.le_of_ble_eq_true rfl, Nat.le_of_ble_eq_true rfl⟩) hK hP hD hS (fun _ h => h) rfl 0 rfl rfl rfl hl.1 rfl (Nat.le_of_ble_eq_true rfl) dL_law_407 ⟨hc, hs⟩ (fun r u1 H locs hw hP hD hS => ?_)
  refine lv_aload_n F.1 F.2.1 dL_law_410 rfl (lv_at hl 2 rfl) ?_
  refine lv_aload_n F.1 F.2.1 dL_law_411 rfl (lv_at hl 0 rfl) ?_
  refine lv_iload F.1 F.2.1 dL_law_412 (lv_at hl 4 rfl) ?_
  refine lv_iconst (v := 1) F.1 F.2.1 dL_law_414 (by decide) ?_
  refine lv_iadd F.1 F.2.1 dL_law_415 ?_
  refine xi_sld F hX hbl hS (by omega) (j := i + 1) (by omega) (ix_k rfl) dL_law_416 ?_
  refine lv_aload_n F.1 F.2.1 dL_law_417 rfl (lv_at hl 0 rfl) ?_
  refine lv_iload F.1 F.2.1 dL_law_418 (lv_at hl 4 rfl) ?_
  refine lv_iconst (v := 2) F.1 F.2.1 dL_law_420 (by decide) ?_
  refine lv_iadd F.1 F.2.1 dL_law_421 ?_
  refine xi_sld F hX hbl hS (by omega) (j := i + 2) (by omega) (ix_k rfl) dL_law_422 ?_
  refine lv_aload_n F.1 F.2.1 dL_law_423 rfl (lv_at hl 0 rfl) ?_
  refine lv_iload F.1 F.2.1 dL_law_424 (lv_at hl 4 rfl) ?_
  refine lv_iconst (v := 3) F.1 F.2.1 dL_law_426 (by decide) ?_
  refine lv_iadd F.1 F.2.1 dL_law_427 ?_
  refine xi_sld F hX hbl hS (by omega) (j := i + 3) (by omega) (ix_k rfl) dL_law_428 ?_
  refine xd_Mi (wc := (fM cs am thr mn mo md hf mlv mva mtg mlk mky mal op inn sc was had)) (wr := fX cs ax o olv ova otg olk oky oal n lv va tg lk ky al u1.1 w tz tm ts kz km ks rz nu mr (va_up sz k u1.2.1) (va_up sm k u1.2.2.1) (va_up ss k u1.2.2.2) ++ [(oa, .inl (cs 2, 1, .inr (.inl f)))]) (As := [.int (xs (i + 1)), .int (xs (i + 2)), .int (xs (i + 3))]) (rest := [.int r]) (F_X4_find l D cs am thr mn mo md hf mlv mva mtg mlk mky mal op inn sc was had (xs (i + 1)) (xs (i + 2)) (xs (i + 3)) _ hw) F (cwV 3 F.2.2.2.2 gL_law_X4_find rfl rfl rfl (by decide +kernel) ⟨Nat.le_of_ble_eq_true rfl, Nat.le_of_ble_eq_true rfl⟩) hK hP hD hS (fun _ h => h) 0 rfl rfl rfl hl.1 rfl (Nat.le_of_ble_eq_true rfl) dL_law_429 ⟨hc, hs⟩ (fun r2 u2 H locs hw hP hD hS => ?_)
  obtain ⟨rfl, hLI⟩ := hw
  refine lv_icmp_eq (tgt := 694) F.1 F.2.1 dL_law_432 (by decide) (fun _ => ?_) (fun hne => absurd rfl hne)
  exact kk o olv ova otg olk oky oal n lv va tg lk ky al u1.1 w tz tm ts kz km ks rz nu mr (va_up sz k u1.2.1) (va_up sm k u1.2.2.1) (va_up ss k u1.2.2.2) u2.1 mn mo u2.2.1 hf mlv mva mtg mlk mky mal op u2.2.2.1 u2.2.2.2 was had f H locs ls hLI hP hD hS hl
set_option maxHeartbeats 4000000 in
set_option maxRecDepth 100000 in
theorem la_join (F : CallFix p m c cL_law 8 s #[Value.ref b] wsL_law RL) (hK : sK D cs s) (hX : va_X b L xs s s.heap) (hbl : b < s.heap.size) (hL : L ≤ 2560) (hi : i + 5 ≤ L) (hc : cells ≤ 601024) (hs : slots ≤ 7293034) (kk : LW p l e s m below meth c b D cs ax am oa i cells slots 694) : LW p l e s m below meth c b D cs ax am oa i cells slots 437 := by
  intro o olv ova otg olk oky oal n lv va tg lk ky al d w tz tm ts kz km ks rz nu mr sz sm ss thr mn mo md hf mlv mva mtg mlk mky mal op inn sc was had f H locs ls hLI hP hD hS hl
  obtain ⟨k, hk, hcall⟩ := st_join (oky := oky) (oal := oal) (tz := tz) (tm := tm) (ts := ts) (kz := kz) (rz := rz) (nu := nu) (mr := mr) (thr := thr) (was := was) (had := had) hLI (xs (i + 1))
  refine lv_aload_n F.1 F.2.1 dL_law_437 rfl (lv_at hl 1 rfl) ?_
  refine lv_aload_n F.1 F.2.1 dL_law_438 rfl (lv_at hl 0 rfl) ?_
  refine lv_iload F.1 F.2.1 dL_law_439 (lv_at hl 4 rfl) ?_
  refine lv_iconst (v := 1) F.1 F.2.1 dL_law_441 (by decide) ?_
  refine lv_iadd F.1 F.2.1 dL_law_442 ?_
  refine xi_sld F hX hbl hS (by omega) (j := i + 1) (by omega) (ix_k rfl) dL_law_443 ?_
  refine xd_Vi (wl := (fM cs am thr mn mo md hf mlv mva mtg mlk mky mal op inn sc was had)) (wr := [(oa, .inl (cs 2, 1, .inr (.inl f)))]) (As := [.int (xs (i + 1))]) (rest := []) (F_X3_join l D cs ax o olv ova otg olk oky oal n lv va tg lk ky al d w tz tm ts kz km ks rz nu mr sz sm ss (xs (i + 1)) k hk _ hcall) F (cwV 1 F.2.2.2.2 gL_law_X3_join rfl rfl rfl (by decide +kernel) ⟨Nat.le_of_ble_eq_true rfl, Nat.le_of_ble_eq_true rfl⟩) hK hP hD hS (fun _ h => h) rfl 0 rfl rfl rfl hl.1 rfl (Nat.le_of_ble_eq_true rfl) dL_law_444 ⟨hc, hs⟩ (fun r u1 H locs hw hP hD hS => ?_)
  refine lv_aload_n F.1 F.2.1 dL_law_447 rfl (lv_at hl 2 rfl) ?_
  refine lv_aload_n F.1 F.2.1 dL_law_448 rfl (lv_at hl 0 rfl) ?_
  refine lv_iload F.1 F.2.1 dL_law_449 (lv_at hl 4 rfl) ?_
  refine lv_iconst (v := 1) F.1 F.2.1 dL_law_451 (by decide) ?_
  refine lv_iadd F.1 F.2.1 dL_law_452 ?_
  refine xi_sld F hX hbl hS (by omega) (j := i + 1) (by omega) (ix_k rfl) dL_law_453 ?_
  refine xd_Mi (wc := (fM cs am thr mn mo md hf mlv mva mtg mlk mky mal op inn sc was had)) (wr := fX cs ax o olv ova otg olk oky oal n lv va tg lk ky al u1.1 w tz tm ts kz km ks rz nu mr (va_up sz k u1.2.1) (va_up sm k u1.2.2.1) (va_up ss k u1.2.2.2) ++ [(oa, .inl (cs 2, 1, .inr (.inl f)))]) (As := [.int (xs (i + 1))]) (rest := [.int r]) (F_X4_join l D cs am thr mn mo md hf mlv mva mtg mlk mky mal op inn sc was had (xs (i + 1)) _ hw) F (cwV 1 F.2.2.2.2 gL_law_X4_join rfl rfl rfl (by decide +kernel) ⟨Nat.le_of_ble_eq_true rfl, Nat.le_of_ble_eq_true rfl⟩) hK hP hD hS (fun _ h => h) 0 rfl rfl rfl hl.1 rfl (Nat.le_of_ble_eq_true rfl) dL_law_454 ⟨hc, hs⟩ (fun r2 u2 H locs hw hP hD hS => ?_)
  obtain ⟨rfl, hLI⟩ := hw
  refine lv_icmp_eq (tgt := 694) F.1 F.2.1 dL_law_457 (by decide) (fun _ => ?_) (fun hne => absurd rfl hne)
  exact kk o olv ova otg olk oky oal n lv va tg lk ky al u1.1 w tz tm ts kz km ks rz nu mr (va_up sz k u1.2.1) (va_up sm k u1.2.2.1) (va_up ss k u1.2.2.2) u2.1 mn mo u2.2.1 hf mlv mva mtg mlk mky mal op u2.2.2.1 u2.2.2.2 was had f H locs ls hLI hP hD hS hl
set_option maxHeartbeats 4000000 in
set_option maxRecDepth 100000 in
theorem la_up (F : CallFix p m c cL_law 8 s #[Value.ref b] wsL_law RL) (hK : sK D cs s) (hX : va_X b L xs s s.heap) (hbl : b < s.heap.size) (hL : L ≤ 2560) (hi : i + 5 ≤ L) (hc : cells ≤ 601024) (hs : slots ≤ 7293034) (kk : LW p l e s m below meth c b D cs ax am oa i cells slots 694) : LW p l e s m below meth c b D cs ax am oa i cells slots 462 := by
  intro o olv ova otg olk oky oal n lv va tg lk ky al d w tz tm ts kz km ks rz nu mr sz sm ss thr mn mo md hf mlv mva mtg mlk mky mal op inn sc was had f H locs ls hLI hP hD hS hl
  obtain ⟨k, hk, hcall⟩ := st_up (oky := oky) (oal := oal) (tz := tz) (tm := tm) (ts := ts) (kz := kz) (rz := rz) (nu := nu) (mr := mr) (thr := thr) (was := was) (had := had) hLI (xs (i + 1)) (xs (i + 2))
  refine lv_aload_n F.1 F.2.1 dL_law_462 rfl (lv_at hl 1 rfl) ?_
  refine lv_aload_n F.1 F.2.1 dL_law_463 rfl (lv_at hl 0 rfl) ?_
  refine lv_iload F.1 F.2.1 dL_law_464 (lv_at hl 4 rfl) ?_
  refine lv_iconst (v := 1) F.1 F.2.1 dL_law_466 (by decide) ?_
  refine lv_iadd F.1 F.2.1 dL_law_467 ?_
  refine xi_sld F hX hbl hS (by omega) (j := i + 1) (by omega) (ix_k rfl) dL_law_468 ?_
  refine lv_aload_n F.1 F.2.1 dL_law_469 rfl (lv_at hl 0 rfl) ?_
  refine lv_iload F.1 F.2.1 dL_law_470 (lv_at hl 4 rfl) ?_
  refine lv_iconst (v := 2) F.1 F.2.1 dL_law_472 (by decide) ?_
  refine lv_iadd F.1 F.2.1 dL_law_473 ?_
  refine xi_sld F hX hbl hS (by omega) (j := i + 2) (by omega) (ix_k rfl) dL_law_474 ?_
  refine xd_Vi (wl := (fM cs am thr mn mo md hf mlv mva mtg mlk mky mal op inn sc was had)) (wr := [(oa, .inl (cs 2, 1, .inr (.inl f)))]) (As := [.int (xs (i + 1)), .int (xs (i + 2))]) (rest := []) (F_X3_up l D cs ax o olv ova otg olk oky oal n lv va tg lk ky al d w tz tm ts kz km ks rz nu mr sz sm ss (xs (i + 1)) (xs (i + 2)) k hk _ hcall) F (cwV 2 F.2.2.2.2 gL_law_X3_up rfl rfl rfl (by decide +kernel) ⟨Nat.le_of_ble_eq_true rfl, Nat.le_of_ble_eq_true rfl⟩) hK hP hD hS (fun _ h => h) rfl 0 rfl rfl rfl hl.1 rfl (Nat.le_of_ble_eq_true rfl) dL_law_475 ⟨hc, hs⟩ (fun r u1 H locs hw hP hD hS => ?_)
  refine lv_aload_n F.1 F.2.1 dL_law_478 rfl (lv_at hl 2 rfl) ?_
  refine lv_aload_n F.1 F.2.1 dL_law_479 rfl (lv_at hl 0 rfl) ?_
  refine lv_iload F.1 F.2.1 dL_law_480 (lv_at hl 4 rfl) ?_
  refine lv_iconst (v := 1) F.1 F.2.1 dL_law_482 (by decide) ?_
  refine lv_iadd F.1 F.2.1 dL_law_483 ?_
  refine xi_sld F hX hbl hS (by omega) (j := i + 1) (by omega) (ix_k rfl) dL_law_484 ?_
  refine lv_aload_n F.1 F.2.1 dL_law_485 rfl (lv_at hl 0 rfl) ?_
  refine lv_iload F.1 F.2.1 dL_law_486 (lv_at hl 4 rfl) ?_
  refine lv_iconst (v := 2) F.1 F.2.1 dL_law_488 (by decide) ?_
  refine lv_iadd F.1 F.2.1 dL_law_489 ?_
  refine xi_sld F hX hbl hS (by omega) (j := i + 2) (by omega) (ix_k rfl) dL_law_490 ?_
  refine xd_Mi (wc := (fM cs am thr mn mo md hf mlv mva mtg mlk mky mal op inn sc was had)) (wr := fX cs ax o olv ova otg olk oky oal n lv va tg lk ky al d u1.1 tz tm ts u1.2.1 u1.2.2.1 u1.2.2.2.1 rz nu mr (va_up sz k u1.2.2.2.2.1) (va_up sm k u1.2.2.2.2.2.1) (va_up ss k u1.2.2.2.2.2.2) ++ [(oa, .inl (cs 2, 1, .inr (.inl f)))]) (As := [.int (xs (i + 1)), .int (xs (i + 2))]) (rest := [.int r]) (F_X4_up l D cs am thr mn mo md hf mlv mva mtg mlk mky mal op inn sc was had (xs (i + 1)) (xs (i + 2)) _ hw) F (cwV 2 F.2.2.2.2 gL_law_X4_up rfl rfl rfl (by decide +kernel) ⟨Nat.le_of_ble_eq_true rfl, Nat.le_of_ble_eq_true rfl⟩) hK hP hD hS (fun _ h => h) 0 rfl rfl rfl hl.1 rfl (Nat.le_of_ble_eq_true rfl) dL_law_491 ⟨hc, hs⟩ (fun r2 u2 H locs hw hP hD hS => ?_)
  obtain ⟨rfl, hLI⟩ := hw
  refine lv_icmp_eq (tgt := 694) F.1 F.2.1 dL_law_494 (by decide) (fun _ => ?_) (fun hne => absurd rfl hne)
  exact kk o olv ova otg olk oky oal n lv va tg lk ky al d u1.1 tz tm ts u1.2.1 u1.2.2.1 u1.2.2.2.1 rz nu mr (va_up sz k u1.2.2.2.2.1) (va_up sm k u1.2.2.2.2.2.1) (va_up ss k u1.2.2.2.2.2.2) u2.1 mn mo md u2.2.1 mlv mva mtg mlk mky mal op u2.2.2.1 u2.2.2.2.1 u2.2.2.2.2.1 u2.2.2.2.2.2 f H locs ls hLI hP hD hS hl
set_option maxHeartbeats 4000000 in
set_option maxRecDepth 100000 in
theorem la_down (F : CallFix p m c cL_law 8 s #[Value.ref b] wsL_law RL) (hK : sK D cs s) (hX : va_X b L xs s s.heap) (hbl : b < s.heap.size) (hL : L ≤ 2560) (hi : i + 5 ≤ L) (hc : cells ≤ 601024) (hs : slots ≤ 7293034) (kk : LW p l e s m below meth c b D cs ax am oa i cells slots 694) : LW p l e s m below meth c b D cs ax am oa i cells slots 499 := by
  intro o olv ova otg olk oky oal n lv va tg lk ky al d w tz tm ts kz km ks rz nu mr sz sm ss thr mn mo md hf mlv mva mtg mlk mky mal op inn sc was had f H locs ls hLI hP hD hS hl
  obtain ⟨k, hk, hcall⟩ := st_down (oky := oky) (oal := oal) (tz := tz) (tm := tm) (ts := ts) (kz := kz) (rz := rz) (nu := nu) (mr := mr) (thr := thr) (was := was) (had := had) hLI (xs (i + 1))
  refine lv_aload_n F.1 F.2.1 dL_law_499 rfl (lv_at hl 1 rfl) ?_
  refine lv_aload_n F.1 F.2.1 dL_law_500 rfl (lv_at hl 0 rfl) ?_
  refine lv_iload F.1 F.2.1 dL_law_501 (lv_at hl 4 rfl) ?_
  refine lv_iconst (v := 1) F.1 F.2.1 dL_law_503 (by decide) ?_
  refine lv_iadd F.1 F.2.1 dL_law_504 ?_
  refine xi_sld F hX hbl hS (by omega) (j := i + 1) (by omega) (ix_k rfl) dL_law_505 ?_
  refine xd_Vi (wl := (fM cs am thr mn mo md hf mlv mva mtg mlk mky mal op inn sc was had)) (wr := [(oa, .inl (cs 2, 1, .inr (.inl f)))]) (As := [.int (xs (i + 1))]) (rest := []) (F_X3_down l D cs ax o olv ova otg olk oky oal n lv va tg lk ky al d w tz tm ts kz km ks rz nu mr sz sm ss (xs (i + 1)) k hk _ hcall) F (cwV 1 F.2.2.2.2 gL_law_X3_down rfl rfl rfl (by decide +kernel) ⟨Nat.le_of_ble_eq_true rfl, Nat.le_of_ble_eq_true rfl⟩) hK hP hD hS (fun _ h => h) rfl 0 rfl rfl rfl hl.1 rfl (Nat.le_of_ble_eq_true rfl) dL_law_506 ⟨hc, hs⟩ (fun r u1 H locs hw hP hD hS => ?_)
  refine lv_aload_n F.1 F.2.1 dL_law_509 rfl (lv_at hl 2 rfl) ?_
  refine lv_aload_n F.1 F.2.1 dL_law_510 rfl (lv_at hl 0 rfl) ?_
  refine lv_iload F.1 F.2.1 dL_law_511 (lv_at hl 4 rfl) ?_
  refine lv_iconst (v := 1) F.1 F.2.1 dL_law_513 (by decide) ?_
  refine lv_iadd F.1 F.2.1 dL_law_514 ?_
  refine xi_sld F hX hbl hS (by omega) (j := i + 1) (by omega) (ix_k rfl) dL_law_515 ?_
  refine xd_Mi (wc := (fM cs am thr mn mo md hf mlv mva mtg mlk mky mal op inn sc was had)) (wr := fX cs ax o olv ova otg olk oky oal n lv va tg lk ky al d w u1.1 u1.2.1 u1.2.2.1 kz km ks rz nu mr (va_up sz k u1.2.2.2.1) (va_up sm k u1.2.2.2.2.1) (va_up ss k u1.2.2.2.2.2) ++ [(oa, .inl (cs 2, 1, .inr (.inl f)))]) (As := [.int (xs (i + 1))]) (rest := [.int r]) (F_X4_down l D cs am thr mn mo md hf mlv mva mtg mlk mky mal op inn sc was had (xs (i + 1)) _ hw) F (cwV 1 F.2.2.2.2 gL_law_X4_down rfl rfl rfl (by decide +kernel) ⟨Nat.le_of_ble_eq_true rfl, Nat.le_of_ble_eq_true rfl⟩) hK hP hD hS (fun _ h => h) 0 rfl rfl rfl hl.1 rfl (Nat.le_of_ble_eq_true rfl) dL_law_516 ⟨hc, hs⟩ (fun r2 u2 H locs hw hP hD hS => ?_)
  obtain ⟨rfl, hLI⟩ := hw
  refine lv_icmp_eq (tgt := 694) F.1 F.2.1 dL_law_519 (by decide) (fun _ => ?_) (fun hne => absurd rfl hne)
  exact kk o olv ova otg olk oky oal n lv va tg lk ky al d w u1.1 u1.2.1 u1.2.2.1 kz km ks rz nu mr (va_up sz k u1.2.2.2.1) (va_up sm k u1.2.2.2.2.1) (va_up ss k u1.2.2.2.2.2) u2.1 mn mo md hf mlv mva mtg mlk mky mal op u2.2.1 u2.2.2.1 u2.2.2.2.1 u2.2.2.2.2 f H locs ls hLI hP hD hS hl
set_option maxHeartbeats 4000000 in
set_option maxRecDepth 100000 in
theorem la_over (F : CallFix p m c cL_law 8 s #[Value.ref b] wsL_law RL) (hK : sK D cs s) (hX : va_X b L xs s s.heap) (hbl : b < s.heap.size) (hL : L ≤ 2560) (hi : i + 5 ≤ L) (hc : cells ≤ 601024) (hs : slots ≤ 7293034) (kk : LW p l e s m below meth c b D cs ax am oa i cells slots 694) : LW p l e s m below meth c b D cs ax am oa i cells slots 524 := by
  intro o olv ova otg olk oky oal n lv va tg lk ky al d w tz tm ts kz km ks rz nu mr sz sm ss thr mn mo md hf mlv mva mtg mlk mky mal op inn sc was had f H locs ls hLI hP hD hS hl
  obtain ⟨k, hk, hcall⟩ := st_over (oky := oky) (oal := oal) (tz := tz) (tm := tm) (ts := ts) (kz := kz) (rz := rz) (nu := nu) (mr := mr) (thr := thr) (was := was) (had := had) hLI 
  refine lv_aload_n F.1 F.2.1 dL_law_524 rfl (lv_at hl 1 rfl) ?_
  refine xd_Vi (wl := (fM cs am thr mn mo md hf mlv mva mtg mlk mky mal op inn sc was had)) (wr := [(oa, .inl (cs 2, 1, .inr (.inl f)))]) (As := []) (rest := []) (F_X3_over l D cs ax o olv ova otg olk oky oal n lv va tg lk ky al d w tz tm ts kz km ks rz nu mr sz sm ss  k hk _ hcall) F (cwV 0 F.2.2.2.2 gL_law_X3_over rfl rfl rfl (by decide +kernel) ⟨Nat.le_of_ble_eq_true rfl, Nat.le_of_ble_eq_true rfl⟩) hK hP hD hS (fun _ h => h) rfl 0 rfl rfl rfl hl.1 rfl (Nat.le_of_ble_eq_true rfl) dL_law_525 ⟨hc, hs⟩ (fun r u1 H locs hw hP hD hS => ?_)
  refine lv_aload_n F.1 F.2.1 dL_law_528 rfl (lv_at hl 2 rfl) ?_
  refine xd_Mi (wc := (fM cs am thr mn mo md hf mlv mva mtg mlk mky mal op inn sc was had)) (wr := fX cs ax o olv ova otg olk oky oal n lv va tg lk ky al d w u1.1 u1.2.1 u1.2.2.1 kz km ks rz nu mr (va_up sz k u1.2.2.2.1) (va_up sm k u1.2.2.2.2.1) (va_up ss k u1.2.2.2.2.2) ++ [(oa, .inl (cs 2, 1, .inr (.inl f)))]) (As := []) (rest := [.int r]) (F_X4_over l D cs am thr mn mo md hf mlv mva mtg mlk mky mal op inn sc was had  _ hw) F (cwV 0 F.2.2.2.2 gL_law_X4_over rfl rfl rfl (by decide +kernel) ⟨Nat.le_of_ble_eq_true rfl, Nat.le_of_ble_eq_true rfl⟩) hK hP hD hS (fun _ h => h) 0 rfl rfl rfl hl.1 rfl (Nat.le_of_ble_eq_true rfl) dL_law_529 ⟨hc, hs⟩ (fun r2 u2 H locs hw hP hD hS => ?_)
  obtain ⟨rfl, hLI⟩ := hw
  refine lv_icmp_eq (tgt := 694) F.1 F.2.1 dL_law_532 (by decide) (fun _ => ?_) (fun hne => absurd rfl hne)
  exact kk o olv ova otg olk oky oal n lv va tg lk ky al d w u1.1 u1.2.1 u1.2.2.1 kz km ks rz nu mr (va_up sz k u1.2.2.2.1) (va_up sm k u1.2.2.2.2.1) (va_up ss k u1.2.2.2.2.2) u2.1 mn mo md hf mlv mva mtg mlk mky mal op u2.2.1 u2.2.2.1 u2.2.2.2.1 u2.2.2.2.2 f H locs ls hLI hP hD hS hl
set_option maxHeartbeats 4000000 in
set_option maxRecDepth 100000 in
theorem la_again (F : CallFix p m c cL_law 8 s #[Value.ref b] wsL_law RL) (hK : sK D cs s) (hX : va_X b L xs s s.heap) (hbl : b < s.heap.size) (hL : L ≤ 2560) (hi : i + 5 ≤ L) (hc : cells ≤ 601024) (hs : slots ≤ 7293034) (kk : LW p l e s m below meth c b D cs ax am oa i cells slots 694) : LW p l e s m below meth c b D cs ax am oa i cells slots 537 := by
  intro o olv ova otg olk oky oal n lv va tg lk ky al d w tz tm ts kz km ks rz nu mr sz sm ss thr mn mo md hf mlv mva mtg mlk mky mal op inn sc was had f H locs ls hLI hP hD hS hl
  obtain ⟨k, hk, hcall⟩ := st_again (oky := oky) (oal := oal) (tz := tz) (tm := tm) (ts := ts) (kz := kz) (rz := rz) (nu := nu) (mr := mr) (thr := thr) (was := was) (had := had) hLI 
  refine lv_aload_n F.1 F.2.1 dL_law_537 rfl (lv_at hl 1 rfl) ?_
  refine xd_Vi (wl := (fM cs am thr mn mo md hf mlv mva mtg mlk mky mal op inn sc was had)) (wr := [(oa, .inl (cs 2, 1, .inr (.inl f)))]) (As := []) (rest := []) (F_X3_again l D cs ax o olv ova otg olk oky oal n lv va tg lk ky al d w tz tm ts kz km ks rz nu mr sz sm ss  k hk _ hcall) F (cwV 0 F.2.2.2.2 gL_law_X3_again rfl rfl rfl (by decide +kernel) ⟨Nat.le_of_ble_eq_true rfl, Nat.le_of_ble_eq_true rfl⟩) hK hP hD hS (fun _ h => h) rfl 0 rfl rfl rfl hl.1 rfl (Nat.le_of_ble_eq_true rfl) dL_law_538 ⟨hc, hs⟩ (fun r u1 H locs hw hP hD hS => ?_)
  refine lv_aload_n F.1 F.2.1 dL_law_541 rfl (lv_at hl 2 rfl) ?_
  refine xd_Mi (wc := (fM cs am thr mn mo md hf mlv mva mtg mlk mky mal op inn sc was had)) (wr := fX cs ax o olv ova otg olk oky oal n lv va tg lk ky al u1.1 w tz tm ts kz km ks rz nu mr (va_up sz (k + 1) u1.2.1) (va_up sm (k + 1) u1.2.2.1) (va_up ss (k + 1) u1.2.2.2) ++ [(oa, .inl (cs 2, 1, .inr (.inl f)))]) (As := []) (rest := [.int r]) (F_X4_again l D cs am thr mn mo md hf mlv mva mtg mlk mky mal op inn sc was had  _ hw) F (cwV 0 F.2.2.2.2 gL_law_X4_again rfl rfl rfl (by decide +kernel) ⟨Nat.le_of_ble_eq_true rfl, Nat.le_of_ble_eq_true rfl⟩) hK hP hD hS (fun _ h => h) 0 rfl rfl rfl hl.1 rfl (Nat.le_of_ble_eq_true rfl) dL_law_542 ⟨hc, hs⟩ (fun r2 u2 H locs hw hP hD hS => ?_)
  obtain ⟨rfl, hLI⟩ := hw
  refine lv_icmp_eq (tgt := 694) F.1 F.2.1 dL_law_545 (by decide) (fun _ => ?_) (fun hne => absurd rfl hne)
  exact kk o olv ova otg olk oky oal n lv va tg lk ky al u1.1 w tz tm ts kz km ks rz nu mr (va_up sz (k + 1) u1.2.1) (va_up sm (k + 1) u1.2.2.1) (va_up ss (k + 1) u1.2.2.2) u2.1 mn mo u2.2.1 hf mlv mva mtg mlk mky mal op u2.2.2.1 u2.2.2.2 was had f H locs ls hLI hP hD hS hl
set_option maxHeartbeats 4000000 in
set_option maxRecDepth 100000 in
theorem la_pop (F : CallFix p m c cL_law 8 s #[Value.ref b] wsL_law RL) (hK : sK D cs s) (hX : va_X b L xs s s.heap) (hbl : b < s.heap.size) (hL : L ≤ 2560) (hi : i + 5 ≤ L) (hc : cells ≤ 601024) (hs : slots ≤ 7293034) (kk : LW p l e s m below meth c b D cs ax am oa i cells slots 694) : LW p l e s m below meth c b D cs ax am oa i cells slots 550 := by
  intro o olv ova otg olk oky oal n lv va tg lk ky al d w tz tm ts kz km ks rz nu mr sz sm ss thr mn mo md hf mlv mva mtg mlk mky mal op inn sc was had f H locs ls hLI hP hD hS hl
  have hcall := st_pop (oky := oky) (oal := oal) (tz := tz) (tm := tm) (ts := ts) (kz := kz) (rz := rz) (nu := nu) (mr := mr) (thr := thr) (was := was) (had := had) hLI 
  refine lv_aload_n F.1 F.2.1 dL_law_550 rfl (lv_at hl 1 rfl) ?_
  refine xd_Vi (wl := (fM cs am thr mn mo md hf mlv mva mtg mlk mky mal op inn sc was had)) (wr := [(oa, .inl (cs 2, 1, .inr (.inl f)))]) (As := []) (rest := []) (F_X3_pop l D cs ax o olv ova otg olk oky oal n lv va tg lk ky al d w tz tm ts kz km ks rz nu mr sz sm ss   _ hcall) F (cwV 0 F.2.2.2.2 gL_law_X3_pop rfl rfl rfl (by decide +kernel) ⟨Nat.le_of_ble_eq_true rfl, Nat.le_of_ble_eq_true rfl⟩) hK hP hD hS (fun _ h => h) rfl 0 rfl rfl rfl hl.1 rfl (Nat.le_of_ble_eq_true rfl) dL_law_551 ⟨hc, hs⟩ (fun r u1 H locs hw hP hD hS => ?_)
  refine lv_aload_n F.1 F.2.1 dL_law_554 rfl (lv_at hl 2 rfl) ?_
  refine xd_Mi (wc := (fM cs am thr mn mo md hf mlv mva mtg mlk mky mal op inn sc was had)) (wr := fX cs ax o olv ova otg olk oky oal n lv va tg lk ky al u1 w tz tm ts kz km ks rz nu mr sz sm ss ++ [(oa, .inl (cs 2, 1, .inr (.inl f)))]) (As := []) (rest := [.int r]) (F_X4_pop l D cs am thr mn mo md hf mlv mva mtg mlk mky mal op inn sc was had  _ hw) F (cwV 0 F.2.2.2.2 gL_law_X4_pop rfl rfl rfl (by decide +kernel) ⟨Nat.le_of_ble_eq_true rfl, Nat.le_of_ble_eq_true rfl⟩) hK hP hD hS (fun _ h => h) 0 rfl rfl rfl hl.1 rfl (Nat.le_of_ble_eq_true rfl) dL_law_555 ⟨hc, hs⟩ (fun r2 u2 H locs hw hP hD hS => ?_)
  obtain ⟨rfl, hLI⟩ := hw
  refine lv_icmp_eq (tgt := 694) F.1 F.2.1 dL_law_558 (by decide) (fun _ => ?_) (fun hne => absurd rfl hne)
  exact kk o olv ova otg olk oky oal n lv va tg lk ky al u1 w tz tm ts kz km ks rz nu mr sz sm ss u2.1 mn mo u2.2 hf mlv mva mtg mlk mky mal op inn sc was had f H locs ls hLI hP hD hS hl
set_option maxHeartbeats 4000000 in
set_option maxRecDepth 100000 in
theorem la_hit (F : CallFix p m c cL_law 8 s #[Value.ref b] wsL_law RL) (hK : sK D cs s) (hX : va_X b L xs s s.heap) (hbl : b < s.heap.size) (hL : L ≤ 2560) (hi : i + 5 ≤ L) (hc : cells ≤ 601024) (hs : slots ≤ 7293034) (kk : LW p l e s m below meth c b D cs ax am oa i cells slots 694) : LW p l e s m below meth c b D cs ax am oa i cells slots 563 := by
  intro o olv ova otg olk oky oal n lv va tg lk ky al d w tz tm ts kz km ks rz nu mr sz sm ss thr mn mo md hf mlv mva mtg mlk mky mal op inn sc was had f H locs ls hLI hP hD hS hl
  obtain ⟨k, hk, hcall⟩ := st_hit (oky := oky) (oal := oal) (tz := tz) (tm := tm) (ts := ts) (kz := kz) (rz := rz) (nu := nu) (mr := mr) (thr := thr) (was := was) (had := had) hLI (xs (i + 1))
  refine lv_aload_n F.1 F.2.1 dL_law_563 rfl (lv_at hl 1 rfl) ?_
  refine lv_aload_n F.1 F.2.1 dL_law_564 rfl (lv_at hl 0 rfl) ?_
  refine lv_iload F.1 F.2.1 dL_law_565 (lv_at hl 4 rfl) ?_
  refine lv_iconst (v := 1) F.1 F.2.1 dL_law_567 (by decide) ?_
  refine lv_iadd F.1 F.2.1 dL_law_568 ?_
  refine xi_sld F hX hbl hS (by omega) (j := i + 1) (by omega) (ix_k rfl) dL_law_569 ?_
  refine xd_Vi (wl := (fM cs am thr mn mo md hf mlv mva mtg mlk mky mal op inn sc was had)) (wr := [(oa, .inl (cs 2, 1, .inr (.inl f)))]) (As := [.int (xs (i + 1))]) (rest := []) (F_X3_hit l D cs ax o olv ova otg olk oky oal n lv va tg lk ky al d w tz tm ts kz km ks rz nu mr sz sm ss (xs (i + 1)) k hk _ hcall) F (cwV 1 F.2.2.2.2 gL_law_X3_hit rfl rfl rfl (by decide +kernel) ⟨Nat.le_of_ble_eq_true rfl, Nat.le_of_ble_eq_true rfl⟩) hK hP hD hS (fun _ h => h) rfl 0 rfl rfl rfl hl.1 rfl (Nat.le_of_ble_eq_true rfl) dL_law_570 ⟨hc, hs⟩ (fun r u1 H locs hw hP hD hS => ?_)
  refine lv_aload_n F.1 F.2.1 dL_law_573 rfl (lv_at hl 2 rfl) ?_
  refine lv_aload_n F.1 F.2.1 dL_law_574 rfl (lv_at hl 0 rfl) ?_
  refine lv_iload F.1 F.2.1 dL_law_575 (lv_at hl 4 rfl) ?_
  refine lv_iconst (v := 1) F.1 F.2.1 dL_law_577 (by decide) ?_
  refine lv_iadd F.1 F.2.1 dL_law_578 ?_
  refine xi_sld F hX hbl hS (by omega) (j := i + 1) (by omega) (ix_k rfl) dL_law_579 ?_
  refine xd_Mi (wc := (fM cs am thr mn mo md hf mlv mva mtg mlk mky mal op inn sc was had)) (wr := fX cs ax o olv ova otg olk oky oal n lv va tg lk ky al d w tz tm ts kz km ks u1.1 u1.2.1 u1.2.2 sz sm ss ++ [(oa, .inl (cs 2, 1, .inr (.inl f)))]) (As := [.int (xs (i + 1))]) (rest := [.int r]) (F_X4_hit l D cs am thr mn mo md hf mlv mva mtg mlk mky mal op inn sc was had (xs (i + 1)) _ hw) F (cwV 1 F.2.2.2.2 gL_law_X4_hit rfl rfl rfl (by decide +kernel) ⟨Nat.le_of_ble_eq_true rfl, Nat.le_of_ble_eq_true rfl⟩) hK hP hD hS (fun _ h => h) 0 rfl rfl rfl hl.1 rfl (Nat.le_of_ble_eq_true rfl) dL_law_580 ⟨hc, hs⟩ (fun r2 u2 H locs hw hP hD hS => ?_)
  obtain ⟨rfl, hLI⟩ := hw
  refine lv_icmp_eq (tgt := 694) F.1 F.2.1 dL_law_583 (by decide) (fun _ => ?_) (fun hne => absurd rfl hne)
  exact kk o olv ova otg olk oky oal n lv va tg lk ky al d w tz tm ts kz km ks u1.1 u1.2.1 u1.2.2 sz sm ss u2 mn mo md hf mlv mva mtg mlk mky mal op inn sc was had f H locs ls hLI hP hD hS hl
set_option maxHeartbeats 4000000 in
set_option maxRecDepth 100000 in
theorem la_score (F : CallFix p m c cL_law 8 s #[Value.ref b] wsL_law RL) (hK : sK D cs s) (hX : va_X b L xs s s.heap) (hbl : b < s.heap.size) (hL : L ≤ 2560) (hi : i + 5 ≤ L) (hc : cells ≤ 601024) (hs : slots ≤ 7293034) (kk : LW p l e s m below meth c b D cs ax am oa i cells slots 694) : LW p l e s m below meth c b D cs ax am oa i cells slots 588 := by
  intro o olv ova otg olk oky oal n lv va tg lk ky al d w tz tm ts kz km ks rz nu mr sz sm ss thr mn mo md hf mlv mva mtg mlk mky mal op inn sc was had f H locs ls hLI hP hD hS hl
  obtain ⟨k, hk, hcall⟩ := st_score (oky := oky) (oal := oal) (tz := tz) (tm := tm) (ts := ts) (kz := kz) (rz := rz) (nu := nu) (mr := mr) (thr := thr) (was := was) (had := had) hLI (xs (i + 1))
  refine lv_aload_n F.1 F.2.1 dL_law_588 rfl (lv_at hl 1 rfl) ?_
  refine lv_aload_n F.1 F.2.1 dL_law_589 rfl (lv_at hl 0 rfl) ?_
  refine lv_iload F.1 F.2.1 dL_law_590 (lv_at hl 4 rfl) ?_
  refine lv_iconst (v := 1) F.1 F.2.1 dL_law_592 (by decide) ?_
  refine lv_iadd F.1 F.2.1 dL_law_593 ?_
  refine xi_sld F hX hbl hS (by omega) (j := i + 1) (by omega) (ix_k rfl) dL_law_594 ?_
  refine xd_Vl (wl := (fM cs am thr mn mo md hf mlv mva mtg mlk mky mal op inn sc was had)) (wr := [(oa, .inl (cs 2, 1, .inr (.inl f)))]) (As := [.int (xs (i + 1))]) (rest := []) (F_X3_score l D cs ax o olv ova otg olk oky oal n lv va tg lk ky al d w tz tm ts kz km ks rz nu mr sz sm ss (xs (i + 1)) k hk _ hcall) F (cwV 1 F.2.2.2.2 gL_law_X3_score rfl rfl rfl (by decide +kernel) ⟨Nat.le_of_ble_eq_true rfl, Nat.le_of_ble_eq_true rfl⟩) hK hP hD hS (fun _ h => h) rfl 0 rfl rfl rfl hl.1 rfl (Nat.le_of_ble_eq_true rfl) dL_law_595 ⟨hc, hs⟩ (fun r u1 H locs hw hP hD hS => ?_)
  refine lv_aload_n F.1 F.2.1 dL_law_598 rfl (lv_at hl 2 rfl) ?_
  refine lv_aload_n F.1 F.2.1 dL_law_599 rfl (lv_at hl 0 rfl) ?_
  refine lv_iload F.1 F.2.1 dL_law_600 (lv_at hl 4 rfl) ?_
  refine lv_iconst (v := 1) F.1 F.2.1 dL_law_602 (by decide) ?_
  refine lv_iadd F.1 F.2.1 dL_law_603 ?_
  refine xi_sld F hX hbl hS (by omega) (j := i + 1) (by omega) (ix_k rfl) dL_law_604 ?_
  refine xd_Ml (wc := (fM cs am thr mn mo md hf mlv mva mtg mlk mky mal op inn sc was had)) (wr := fX cs ax o olv ova otg olk oky oal n lv va tg lk ky al d w tz tm ts kz km ks rz nu mr sz sm ss ++ [(oa, .inl (cs 2, 1, .inr (.inl f)))]) (As := [.int (xs (i + 1))]) (rest := [.long r]) (F_X4_score l D cs am thr mn mo md hf mlv mva mtg mlk mky mal op inn sc was had (xs (i + 1)) _ hw) F (cwV 1 F.2.2.2.2 gL_law_X4_score rfl rfl rfl (by decide +kernel) ⟨Nat.le_of_ble_eq_true rfl, Nat.le_of_ble_eq_true rfl⟩) hK hP hD hS (fun _ h => h) 0 rfl rfl rfl hl.1 rfl (Nat.le_of_ble_eq_true rfl) dL_law_605 ⟨hc, hs⟩ (fun r2 u2 H locs hw hP hD hS => ?_)
  obtain ⟨rfl, hLI⟩ := hw
  refine xi_lcmp_eq (tgt := 694) F dL_law_608 dL_law_609 (by decide) (fun _ => ?_) (fun hne => absurd rfl hne)
  exact kk o olv ova otg olk oky oal n lv va tg lk ky al d w tz tm ts kz km ks rz nu mr sz sm ss u2 mn mo md hf mlv mva mtg mlk mky mal op inn sc was had f H locs ls hLI hP hD hS hl
set_option maxHeartbeats 4000000 in
set_option maxRecDepth 100000 in
theorem la_family (F : CallFix p m c cL_law 8 s #[Value.ref b] wsL_law RL) (hK : sK D cs s) (hX : va_X b L xs s s.heap) (hbl : b < s.heap.size) (hL : L ≤ 2560) (hi : i + 5 ≤ L) (hc : cells ≤ 601024) (hs : slots ≤ 7293034) (kk : LW p l e s m below meth c b D cs ax am oa i cells slots 694) : LW p l e s m below meth c b D cs ax am oa i cells slots 614 := by
  intro o olv ova otg olk oky oal n lv va tg lk ky al d w tz tm ts kz km ks rz nu mr sz sm ss thr mn mo md hf mlv mva mtg mlk mky mal op inn sc was had f H locs ls hLI hP hD hS hl
  have hcall := st_family (oky := oky) (oal := oal) (tz := tz) (tm := tm) (ts := ts) (kz := kz) (rz := rz) (nu := nu) (mr := mr) (thr := thr) (was := was) (had := had) hLI (xs (i + 1)) (xs (i + 2))
  refine lv_aload_n F.1 F.2.1 dL_law_614 rfl (lv_at hl 1 rfl) ?_
  refine lv_aload_n F.1 F.2.1 dL_law_615 rfl (lv_at hl 0 rfl) ?_
  refine lv_iload F.1 F.2.1 dL_law_616 (lv_at hl 4 rfl) ?_
  refine lv_iconst (v := 1) F.1 F.2.1 dL_law_618 (by decide) ?_
  refine lv_iadd F.1 F.2.1 dL_law_619 ?_
  refine xi_sld F hX hbl hS (by omega) (j := i + 1) (by omega) (ix_k rfl) dL_law_620 ?_
  refine lv_aload_n F.1 F.2.1 dL_law_621 rfl (lv_at hl 0 rfl) ?_
  refine lv_iload F.1 F.2.1 dL_law_622 (lv_at hl 4 rfl) ?_
  refine lv_iconst (v := 2) F.1 F.2.1 dL_law_624 (by decide) ?_
  refine lv_iadd F.1 F.2.1 dL_law_625 ?_
  refine xi_sld F hX hbl hS (by omega) (j := i + 2) (by omega) (ix_k rfl) dL_law_626 ?_
  refine xd_Vi (wl := (fM cs am thr mn mo md hf mlv mva mtg mlk mky mal op inn sc was had)) (wr := [(oa, .inl (cs 2, 1, .inr (.inl f)))]) (As := [.int (xs (i + 1)), .int (xs (i + 2))]) (rest := []) (F_X3_family l D cs ax o olv ova otg olk oky oal n lv va tg lk ky al d w tz tm ts kz km ks rz nu mr sz sm ss (xs (i + 1)) (xs (i + 2))  _ hcall) F (cwV 2 F.2.2.2.2 gL_law_X3_family rfl rfl rfl (by decide +kernel) ⟨Nat.le_of_ble_eq_true rfl, Nat.le_of_ble_eq_true rfl⟩) hK hP hD hS (fun _ h => h) rfl 0 rfl rfl rfl hl.1 rfl (Nat.le_of_ble_eq_true rfl) dL_law_627 ⟨hc, hs⟩ (fun r u1 H locs hw hP hD hS => ?_)
  refine lv_aload_n F.1 F.2.1 dL_law_630 rfl (lv_at hl 2 rfl) ?_
  refine lv_aload_n F.1 F.2.1 dL_law_631 rfl (lv_at hl 0 rfl) ?_
  refine lv_iload F.1 F.2.1 dL_law_632 (lv_at hl 4 rfl) ?_
  refine lv_iconst (v := 1) F.1 F.2.1 dL_law_634 (by decide) ?_
  refine lv_iadd F.1 F.2.1 dL_law_635 ?_
  refine xi_sld F hX hbl hS (by omega) (j := i + 1) (by omega) (ix_k rfl) dL_law_636 ?_
  refine lv_aload_n F.1 F.2.1 dL_law_637 rfl (lv_at hl 0 rfl) ?_
  refine lv_iload F.1 F.2.1 dL_law_638 (lv_at hl 4 rfl) ?_
  refine lv_iconst (v := 2) F.1 F.2.1 dL_law_640 (by decide) ?_
  refine lv_iadd F.1 F.2.1 dL_law_641 ?_
  refine xi_sld F hX hbl hS (by omega) (j := i + 2) (by omega) (ix_k rfl) dL_law_642 ?_
  refine xd_Mi (wc := (fM cs am thr mn mo md hf mlv mva mtg mlk mky mal op inn sc was had)) (wr := fX cs ax o olv ova otg olk oky oal n lv va tg lk ky al d w tz tm ts kz km ks u1.1 u1.2.1 u1.2.2 sz sm ss ++ [(oa, .inl (cs 2, 1, .inr (.inl f)))]) (As := [.int (xs (i + 1)), .int (xs (i + 2))]) (rest := [.int r]) (F_X4_family l D cs am thr mn mo md hf mlv mva mtg mlk mky mal op inn sc was had (xs (i + 1)) (xs (i + 2)) _ hw) F (cwV 2 F.2.2.2.2 gL_law_X4_family rfl rfl rfl (by decide +kernel) ⟨Nat.le_of_ble_eq_true rfl, Nat.le_of_ble_eq_true rfl⟩) hK hP hD hS (fun _ h => h) 0 rfl rfl rfl hl.1 rfl (Nat.le_of_ble_eq_true rfl) dL_law_643 ⟨hc, hs⟩ (fun r2 u2 H locs hw hP hD hS => ?_)
  obtain ⟨rfl, hLI⟩ := hw
  refine lv_icmp_eq (tgt := 694) F.1 F.2.1 dL_law_646 (by decide) (fun _ => ?_) (fun hne => absurd rfl hne)
  exact kk o olv ova otg olk oky oal n lv va tg lk ky al d w tz tm ts kz km ks u1.1 u1.2.1 u1.2.2 sz sm ss u2 mn mo md hf mlv mva mtg mlk mky mal op inn sc was had f H locs ls hLI hP hD hS hl
end LA
