theorem lg_self (x : Int64) : lg_cmp x x = 0 := by
  unfold lg_cmp
  simp
set_option maxHeartbeats 40000000 in
set_option maxRecDepth 100000 in
/-- THE LAW'S LOOP -/
theorem law_loop {p : Program} {l : Launch} {e : Env} {s : State} {m : MethodId} {below : List Frame} {meth : Method} {c : Code} {D : va_G} {b L t1 t2 sa N : Nat} {xs : Nat → Int32} {Rel : SS → SS → Prop} (hst : l.stackTraces = false) (hsim : SIM N Rel) (hL : L ≤ 3072) (C0 : lw_At p s m meth c b L xs) (hE : va_AOA .int s) {A : Nat → Prop} (hAe : A = fun q : Nat => s.heap.size ≤ q) (hEX : EXT sa A s s.heap) :
    ∀ (n i : Nat) (x4 : Int32), i ≤ 4000 → L + 1 ≤ i + n → x4 = nI i → ∀ (ad : Nat → Nat) (dA : Nat → ClassId) (S T : SS) (o : Nat → Int64) (H : Heap) (locs : List Loc) (ls : Array Slot), WD D dA ad t1 t2 A s S T o H locs → Rel S T → lv_has ls 7 [(0, .ref b), (1, .ref (ad 0)), (2, .ref (ad 52)), (3, .ref (ad 78)), (4, .int x4)] → W p l e room_1 s m #[Value.ref b] below meth c H locs (79 + i) (21000 + 40 * i) (lw_Z below #[Value.ref b] s) (F0 m 23 ls []) := by
  obtain ⟨hx, hb, hr, hml, hown, hts, hX, hbl, hlocks, hgv⟩ := C0
  have hbA : ¬ A b := by rw [hAe]; exact Nat.not_le.mpr hbl
  have X : CallFix p m c code 7 s #[Value.ref b] BG RL := ⟨hx, hb, hml, hown, fun w h => hts w (bg_in w h)⟩
  intro n
  induction n with
  | zero =>
    intro i x4 hi hn ex4 ad dA S T o H locs ls w hRel hl
    have hLi : L < i := by omega
    refine lv_iload hx hb dL_law_23 (lv_at hl 4 rfl) ?_
    refine lv_aload_n hx hb dL_law_25 rfl (lv_at hl 0 rfl) ?_
    refine va_slen hx hb hX hbl hbA w.2.2.2.1 dL_law_26 ?_
    refine lv_bipush (v := 6) hx hb dL_law_27 (by decide) ?_
    refine lv_isub hx hb dL_law_29 ?_
    refine lv_icmp_gt (tgt := 1425) hx hb dL_law_30 (by decide) (fun q0 => ?_) (fun q0 => ?_)
    · refine lv_iconst (v := 1) hx hb dL_law_1425 (by decide) ?_
      refine va_forget (fun q hq => by have := w.2.2.2.1.2.2 q hq; rw [hAe] at this; exact this) ?_
      refine W.widen (k := 601024) (n := 7293034) (by omega) (by omega) ?_
      exact lw_ret hx hb hr hlocks dL_law_1426
    · exact absurd (nI6 hL hi (by rw [← ex4]; exact q0)) (by omega)
  | succ n ih =>
    intro i x4 hi hn ex4 ad dA S T o H locs ls w hRel hl
    refine lv_iload hx hb dL_law_23 (lv_at hl 4 rfl) ?_
    refine lv_aload_n hx hb dL_law_25 rfl (lv_at hl 0 rfl) ?_
    refine va_slen hx hb hX hbl hbA w.2.2.2.1 dL_law_26 ?_
    refine lv_bipush (v := 6) hx hb dL_law_27 (by decide) ?_
    refine lv_isub hx hb dL_law_29 ?_
    refine lv_icmp_gt (tgt := 1425) hx hb dL_law_30 (by decide) (fun q0 => ?_) (fun q0 => ?_)
    · refine lv_iconst (v := 1) hx hb dL_law_1425 (by decide) ?_
      refine va_forget (fun q hq => by have := w.2.2.2.1.2.2 q hq; rw [hAe] at this; exact this) ?_
      refine W.widen (k := 601024) (n := 7293034) (by omega) (by omega) ?_
      exact lw_ret hx hb hr hlocks dL_law_1426
    have hle : i + 6 ≤ L := nI6 hL hi (by rw [← ex4]; exact q0)
    have hin0 : vp_in x4 L := by rw [ex4]; exact vp_in_nI (by omega) (by omega)
    have hin1 : vp_in (x4 + 1) L := by rw [ex4, show nI i + 1 = nI (i + 1) from nI_add i 1]; exact vp_in_nI (by omega) (by omega)
    have hin2 : vp_in (x4 + 2) L := by rw [ex4, show nI i + 2 = nI (i + 2) from nI_add i 2]; exact vp_in_nI (by omega) (by omega)
    have hin3 : vp_in (x4 + 3) L := by rw [ex4, show nI i + 3 = nI (i + 3) from nI_add i 3]; exact vp_in_nI (by omega) (by omega)
    have hin4 : vp_in (x4 + 4) L := by rw [ex4, show nI i + 4 = nI (i + 4) from nI_add i 4]; exact vp_in_nI (by omega) (by omega)
    have hin5 : vp_in (x4 + 5) L := by rw [ex4, show nI i + 5 = nI (i + 5) from nI_add i 5]; exact vp_in_nI (by omega) (by omega)
    obtain ⟨z1, hz1⟩ : ∃ z, xs (x4 + 1 : Int32).toNatClampNeg = z := ⟨_, rfl⟩
    obtain ⟨z2, hz2⟩ : ∃ z, xs (x4 + 2 : Int32).toNatClampNeg = z := ⟨_, rfl⟩
    obtain ⟨z3, hz3⟩ : ∃ z, xs (x4 + 3 : Int32).toNatClampNeg = z := ⟨_, rfl⟩
    obtain ⟨z4, hz4⟩ : ∃ z, xs (x4 + 4 : Int32).toNatClampNeg = z := ⟨_, rfl⟩
    obtain ⟨z5, hz5⟩ : ∃ z, xs (x4 + 5 : Int32).toNatClampNeg = z := ⟨_, rfl⟩
    have NEXT : ∀ (ad : Nat → Nat) (dA : Nat → ClassId) (S T : SS) (o : Nat → Int64) (H : Heap) (locs : List Loc) (ls : Array Slot), WD D dA ad t1 t2 A s S T o H locs → Rel S T → lv_has ls 7 [(0, .ref b), (1, .ref (ad 0)), (2, .ref (ad 52)), (3, .ref (ad 78)), (4, .int x4)] → W p l e room_1 s m #[Value.ref b] below meth c H locs (79 + (i + 6)) (21000 + 40 * (i + 6)) (lw_Z below #[Value.ref b] s) (F0 m 1419 ls []) := by
      intro ad dA S T o H locs ls w hRel hl
      obtain ⟨x5, ex5⟩ : ∃ y : Int32, y = x4 + 6 := ⟨_, rfl⟩
      refine lv_iinc (v := x5) (lv' := [(4, .int x5), (0, .ref b), (1, .ref (ad 0)), (2, .ref (ad 52)), (3, .ref (ad 78))]) hx hb dL_law_1419 hl (k := 4) rfl (by rw [ex5]; rfl) (by decide) rfl (fun ls hl => ?_)
      refine lv_goto (tgt := 23) hx hb dL_law_1422 (by decide) ?_
      exact ih (i + 6) x5 (by omega) (by omega) (by rw [ex5, ex4]; exact nI_add i 6) ad dA S T o H locs ls w hRel (lv_sub hl [1, 2, 3, 4, 0] rfl)
    refine lv_aload_n hx hb dL_law_33 rfl (lv_at hl 0 rfl) ?_
    refine lv_iload hx hb dL_law_34 (lv_at hl 4 rfl) ?_
    refine va_sld hx hb hX hbl hbA w.2.2.2.1 hin0 dL_law_36 ?_
    refine lv_bipush (v := 63) hx hb dL_law_37 (by decide) ?_
    refine lv_iand hx hb dL_law_39 ?_
    refine lv_topi (fun sw esw => ?_)
    by_cases sw0 : sw = 0
    · refine lv_tableIn (tgt := 200) hx hb dL_law_40 (by rw [sw0]; decide) (by rw [sw0]; decide) (by rw [sw0]; rfl) (by decide) ?_
      refine W.widen (k := 79 + (i + 6)) (n := 21000 + 40 * (i + 6)) (by omega) (by omega) ?_
      refine lv_aload_n hx hb dL_law_200 rfl (lv_at hl 1 rfl) ?_
      refine lv_aload_n hx hb dL_law_201 rfl (lv_at hl 0 rfl) ?_
      refine lv_iload hx hb dL_law_202 (lv_at hl 4 rfl) ?_
      refine lv_iconst (v := 1) hx hb dL_law_204 (by decide) ?_
      refine lv_iadd hx hb dL_law_205 ?_
      refine va_sld hx hb hX hbl hbA w.2.2.2.1 hin1 dL_law_206 ?_
      rw [show xs (x4 + 1 : Int32).toNatClampNeg = z1 from hz1]
      refine lv_aload_n hx hb dL_law_207 rfl (lv_at hl 0 rfl) ?_
      refine lv_iload hx hb dL_law_208 (lv_at hl 4 rfl) ?_
      refine lv_iconst (v := 2) hx hb dL_law_210 (by decide) ?_
      refine lv_iadd hx hb dL_law_211 ?_
      refine va_sld hx hb hX hbl hbA w.2.2.2.1 hin2 dL_law_212 ?_
      rw [show xs (x4 + 2 : Int32).toNatClampNeg = z2 from hz2]
      refine lv_aload_n hx hb dL_law_213 rfl (lv_at hl 0 rfl) ?_
      refine lv_iload hx hb dL_law_214 (lv_at hl 4 rfl) ?_
      refine lv_iconst (v := 3) hx hb dL_law_216 (by decide) ?_
      refine lv_iadd hx hb dL_law_217 ?_
      refine va_sld hx hb hX hbl hbA w.2.2.2.1 hin3 dL_law_218 ?_
      rw [show xs (x4 + 3 : Int32).toNatClampNeg = z3 from hz3]
      refine lv_aload_n hx hb dL_law_219 rfl (lv_at hl 0 rfl) ?_
      refine lv_iload hx hb dL_law_220 (lv_at hl 4 rfl) ?_
      refine lv_iconst (v := 4) hx hb dL_law_222 (by decide) ?_
      refine lv_iadd hx hb dL_law_223 ?_
      refine va_sld hx hb hX hbl hbA w.2.2.2.1 hin4 dL_law_224 ?_
      rw [show xs (x4 + 4 : Int32).toNatClampNeg = z4 from hz4]
      refine lv_aload_n hx hb dL_law_225 rfl (lv_at hl 0 rfl) ?_
      refine lv_iload hx hb dL_law_226 (lv_at hl 4 rfl) ?_
      refine lv_iconst (v := 5) hx hb dL_law_228 (by decide) ?_
      refine lv_iadd hx hb dL_law_229 ?_
      refine va_sld hx hb hX hbl hbA w.2.2.2.1 hin5 dL_law_230 ?_
      rw [show xs (x4 + 5 : Int32).toNatClampNeg = z5 from hz5]
      obtain ⟨r, S1, T1, hC, hM, hRel1⟩ := hsim.1 S T hRel (z1) (z2) (z3) (z4) (z5)
      refine cVi (k := 0) (As := [.int z1, .int z2, .int z3, .int z4, .int z5]) (rest := []) X hl.1 w okX11_feed obX11 rfl lmL_19 (kX11_feed hC) ⟨Nat.le_of_ble_eq_true rfl, Nat.le_of_ble_eq_true rfl⟩ ⟨rfl, rfl⟩ ⟨by show _ ≤ 601024; omega, by show _ ≤ 7293034; omega⟩ rfl rfl (Nat.le_of_ble_eq_true rfl) dL_law_231 (fun H locs hzz w => ?_)
      refine lv_aload_n hx hb dL_law_234 rfl (lv_at hl 2 rfl) ?_
      refine lv_aload_n hx hb dL_law_235 rfl (lv_at hl 0 rfl) ?_
      refine lv_iload hx hb dL_law_236 (lv_at hl 4 rfl) ?_
      refine lv_iconst (v := 1) hx hb dL_law_238 (by decide) ?_
      refine lv_iadd hx hb dL_law_239 ?_
      refine va_sld hx hb hX hbl hbA w.2.2.2.1 hin1 dL_law_240 ?_
      rw [show xs (x4 + 1 : Int32).toNatClampNeg = z1 from hz1]
      refine lv_aload_n hx hb dL_law_241 rfl (lv_at hl 0 rfl) ?_
      refine lv_iload hx hb dL_law_242 (lv_at hl 4 rfl) ?_
      refine lv_iconst (v := 2) hx hb dL_law_244 (by decide) ?_
      refine lv_iadd hx hb dL_law_245 ?_
      refine va_sld hx hb hX hbl hbA w.2.2.2.1 hin2 dL_law_246 ?_
      rw [show xs (x4 + 2 : Int32).toNatClampNeg = z2 from hz2]
      refine lv_aload_n hx hb dL_law_247 rfl (lv_at hl 0 rfl) ?_
      refine lv_iload hx hb dL_law_248 (lv_at hl 4 rfl) ?_
      refine lv_iconst (v := 3) hx hb dL_law_250 (by decide) ?_
      refine lv_iadd hx hb dL_law_251 ?_
      refine va_sld hx hb hX hbl hbA w.2.2.2.1 hin3 dL_law_252 ?_
      rw [show xs (x4 + 3 : Int32).toNatClampNeg = z3 from hz3]
      refine lv_aload_n hx hb dL_law_253 rfl (lv_at hl 0 rfl) ?_
      refine lv_iload hx hb dL_law_254 (lv_at hl 4 rfl) ?_
      refine lv_iconst (v := 4) hx hb dL_law_256 (by decide) ?_
      refine lv_iadd hx hb dL_law_257 ?_
      refine va_sld hx hb hX hbl hbA w.2.2.2.1 hin4 dL_law_258 ?_
      rw [show xs (x4 + 4 : Int32).toNatClampNeg = z4 from hz4]
      refine lv_aload_n hx hb dL_law_259 rfl (lv_at hl 0 rfl) ?_
      refine lv_iload hx hb dL_law_260 (lv_at hl 4 rfl) ?_
      refine lv_iconst (v := 5) hx hb dL_law_262 (by decide) ?_
      refine lv_iadd hx hb dL_law_263 ?_
      refine va_sld hx hb hX hbl hbA w.2.2.2.1 hin5 dL_law_264 ?_
      rw [show xs (x4 + 5 : Int32).toNatClampNeg = z5 from hz5]
      refine cVi (k := 52) (As := [.int z1, .int z2, .int z3, .int z4, .int z5]) (rest := [.int r]) X hl.1 w okX12_feed obX12 rfl lmL_23 (kX12_feed hM) ⟨Nat.le_of_ble_eq_true rfl, Nat.le_of_ble_eq_true rfl⟩ ⟨rfl, rfl⟩ ⟨by show _ ≤ 601024; omega, by show _ ≤ 7293034; omega⟩ rfl rfl (Nat.le_of_ble_eq_true rfl) dL_law_265 (fun H locs hzz w => ?_)
      refine lv_icmp_eq (tgt := 1419) hx hb dL_law_268 (by decide) (fun q7 => ?_) (fun q7 => ?_)
      · exact NEXT _ _ _ _ _ _ _ _ w hRel1 (lv_sub hl [0, 1, 2, 3, 4] rfl)
      · exact absurd rfl q7
    by_cases sw1 : sw = 1
    · refine lv_tableIn (tgt := 273) hx hb dL_law_40 (by rw [sw1]; decide) (by rw [sw1]; decide) (by rw [sw1]; rfl) (by decide) ?_
      refine W.widen (k := 79 + (i + 6)) (n := 21000 + 40 * (i + 6)) (by omega) (by omega) ?_
      refine lv_aload_n hx hb dL_law_273 rfl (lv_at hl 1 rfl) ?_
      refine lv_aload_n hx hb dL_law_274 rfl (lv_at hl 0 rfl) ?_
      refine lv_iload hx hb dL_law_275 (lv_at hl 4 rfl) ?_
      refine lv_iconst (v := 1) hx hb dL_law_277 (by decide) ?_
      refine lv_iadd hx hb dL_law_278 ?_
      refine va_sld hx hb hX hbl hbA w.2.2.2.1 hin1 dL_law_279 ?_
      rw [show xs (x4 + 1 : Int32).toNatClampNeg = z1 from hz1]
      obtain ⟨r, S1, T1, hC, hM, hRel1⟩ := hsim.2.1 S T hRel (z1)
      refine cVi (k := 0) (As := [.int z1]) (rest := []) X hl.1 w okX11_end obX11 rfl lmL_24 (kX11_end hC) ⟨Nat.le_of_ble_eq_true rfl, Nat.le_of_ble_eq_true rfl⟩ ⟨rfl, rfl⟩ ⟨by show _ ≤ 601024; omega, by show _ ≤ 7293034; omega⟩ rfl rfl (Nat.le_of_ble_eq_true rfl) dL_law_280 (fun H locs hzz w => ?_)
      refine lv_aload_n hx hb dL_law_283 rfl (lv_at hl 2 rfl) ?_
      refine lv_aload_n hx hb dL_law_284 rfl (lv_at hl 0 rfl) ?_
      refine lv_iload hx hb dL_law_285 (lv_at hl 4 rfl) ?_
      refine lv_iconst (v := 1) hx hb dL_law_287 (by decide) ?_
      refine lv_iadd hx hb dL_law_288 ?_
      refine va_sld hx hb hX hbl hbA w.2.2.2.1 hin1 dL_law_289 ?_
      rw [show xs (x4 + 1 : Int32).toNatClampNeg = z1 from hz1]
      refine cVi (k := 52) (As := [.int z1]) (rest := [.int r]) X hl.1 w okX12_end obX12 rfl lmL_28 (kX12_end hM) ⟨Nat.le_of_ble_eq_true rfl, Nat.le_of_ble_eq_true rfl⟩ ⟨rfl, rfl⟩ ⟨by show _ ≤ 601024; omega, by show _ ≤ 7293034; omega⟩ rfl rfl (Nat.le_of_ble_eq_true rfl) dL_law_290 (fun H locs hzz w => ?_)
      refine lv_icmp_eq (tgt := 1419) hx hb dL_law_293 (by decide) (fun q7 => ?_) (fun q7 => ?_)
      · exact NEXT _ _ _ _ _ _ _ _ w hRel1 (lv_sub hl [0, 1, 2, 3, 4] rfl)
      · exact absurd rfl q7
    by_cases sw2 : sw = 2
    · refine lv_tableIn (tgt := 298) hx hb dL_law_40 (by rw [sw2]; decide) (by rw [sw2]; decide) (by rw [sw2]; rfl) (by decide) ?_
      refine W.widen (k := 79 + (i + 6)) (n := 21000 + 40 * (i + 6)) (by omega) (by omega) ?_
      refine lv_aload_n hx hb dL_law_298 rfl (lv_at hl 1 rfl) ?_
      refine lv_aload_n hx hb dL_law_299 rfl (lv_at hl 0 rfl) ?_
      refine lv_iload hx hb dL_law_300 (lv_at hl 4 rfl) ?_
      refine lv_iconst (v := 1) hx hb dL_law_302 (by decide) ?_
      refine lv_iadd hx hb dL_law_303 ?_
      refine va_sld hx hb hX hbl hbA w.2.2.2.1 hin1 dL_law_304 ?_
      rw [show xs (x4 + 1 : Int32).toNatClampNeg = z1 from hz1]
      obtain ⟨r, S1, T1, hC, hM, hRel1⟩ := hsim.2.2.1 S T hRel (z1)
      refine cVi (k := 0) (As := [.int z1]) (rest := []) X hl.1 w okX11_fault obX11 rfl lmL_29 (kX11_fault hC) ⟨Nat.le_of_ble_eq_true rfl, Nat.le_of_ble_eq_true rfl⟩ ⟨rfl, rfl⟩ ⟨by show _ ≤ 601024; omega, by show _ ≤ 7293034; omega⟩ rfl rfl (Nat.le_of_ble_eq_true rfl) dL_law_305 (fun H locs hzz w => ?_)
      refine lv_aload_n hx hb dL_law_308 rfl (lv_at hl 2 rfl) ?_
      refine lv_aload_n hx hb dL_law_309 rfl (lv_at hl 0 rfl) ?_
      refine lv_iload hx hb dL_law_310 (lv_at hl 4 rfl) ?_
      refine lv_iconst (v := 1) hx hb dL_law_312 (by decide) ?_
      refine lv_iadd hx hb dL_law_313 ?_
      refine va_sld hx hb hX hbl hbA w.2.2.2.1 hin1 dL_law_314 ?_
      rw [show xs (x4 + 1 : Int32).toNatClampNeg = z1 from hz1]
      refine cVi (k := 52) (As := [.int z1]) (rest := [.int r]) X hl.1 w okX12_fault obX12 rfl lmL_33 (kX12_fault hM) ⟨Nat.le_of_ble_eq_true rfl, Nat.le_of_ble_eq_true rfl⟩ ⟨rfl, rfl⟩ ⟨by show _ ≤ 601024; omega, by show _ ≤ 7293034; omega⟩ rfl rfl (Nat.le_of_ble_eq_true rfl) dL_law_315 (fun H locs hzz w => ?_)
      refine lv_icmp_eq (tgt := 1419) hx hb dL_law_318 (by decide) (fun q7 => ?_) (fun q7 => ?_)
      · exact NEXT _ _ _ _ _ _ _ _ w hRel1 (lv_sub hl [0, 1, 2, 3, 4] rfl)
      · exact absurd rfl q7
    by_cases sw3 : sw = 3
    · refine lv_tableIn (tgt := 323) hx hb dL_law_40 (by rw [sw3]; decide) (by rw [sw3]; decide) (by rw [sw3]; rfl) (by decide) ?_
      refine lv_aload_n hx hb dL_law_323 rfl (lv_at hl 1 rfl) ?_
      refine lv_aload_n hx hb dL_law_324 rfl (lv_at hl 0 rfl) ?_
      refine lv_iload hx hb dL_law_325 (lv_at hl 4 rfl) ?_
      refine lv_iconst (v := 1) hx hb dL_law_327 (by decide) ?_
      refine lv_iadd hx hb dL_law_328 ?_
      refine va_sld hx hb hX hbl hbA w.2.2.2.1 hin1 dL_law_329 ?_
      rw [show xs (x4 + 1 : Int32).toNatClampNeg = z1 from hz1]
      obtain ⟨r, S1, T1, hC, hM, hRel1⟩ := hsim.2.2.2.1 S T hRel (z1)
      refine cVE (k := 0) (As := [.int z1]) (rest := []) X hl.1 w hE okX11_text obX11 rfl lmL_34 (kX11_text hC) ⟨Nat.le_of_ble_eq_true rfl, Nat.le_of_ble_eq_true rfl⟩ ⟨rfl, rfl⟩ ⟨by show 79 + i + 1 ≤ 601024; omega, by show 21000 + 40 * i + 240 ≤ 7293034; omega⟩ rfl rfl (Nat.le_of_ble_eq_true rfl) dL_law_330 (fun ae dB H locs hag w => ?_)
      refine W.widen (k := 79 + (i + 6)) (n := 21000 + 40 * (i + 6)) (by omega) (by omega) ?_
      have hl : lv_has ls 7 [(0, .ref b), (1, .ref (ae 0)), (2, .ref (ae 52)), (3, .ref (ae 78)), (4, .int x4)] := by rw [hag 0 (by omega), hag 52 (by omega), hag 78 (by omega)]; exact hl
      refine lv_aload_n hx hb dL_law_333 rfl (lv_at hl 2 rfl) ?_
      refine lv_aload_n hx hb dL_law_334 rfl (lv_at hl 0 rfl) ?_
      refine lv_iload hx hb dL_law_335 (lv_at hl 4 rfl) ?_
      refine lv_iconst (v := 1) hx hb dL_law_337 (by decide) ?_
      refine lv_iadd hx hb dL_law_338 ?_
      refine va_sld hx hb hX hbl hbA w.2.2.2.1 hin1 dL_law_339 ?_
      rw [show xs (x4 + 1 : Int32).toNatClampNeg = z1 from hz1]
      refine cVi (k := 52) (As := [.int z1]) (rest := [.int r]) X hl.1 w okX12_text obX12 rfl lmL_37 (kX12_text hM) ⟨Nat.le_of_ble_eq_true rfl, Nat.le_of_ble_eq_true rfl⟩ ⟨rfl, rfl⟩ ⟨by show _ ≤ 601024; omega, by show _ ≤ 7293034; omega⟩ rfl rfl (Nat.le_of_ble_eq_true rfl) dL_law_340 (fun H locs hzz w => ?_)
      refine lv_icmp_eq (tgt := 1419) hx hb dL_law_343 (by decide) (fun q7 => ?_) (fun q7 => ?_)
      · exact NEXT _ _ _ _ _ _ _ _ w hRel1 (lv_sub hl [0, 1, 2, 3, 4] rfl)
      · exact absurd rfl q7
    by_cases sw4 : sw = 4
    · refine lv_tableIn (tgt := 348) hx hb dL_law_40 (by rw [sw4]; decide) (by rw [sw4]; decide) (by rw [sw4]; rfl) (by decide) ?_
      refine W.widen (k := 79 + (i + 6)) (n := 21000 + 40 * (i + 6)) (by omega) (by omega) ?_
      refine lv_aload_n hx hb dL_law_348 rfl (lv_at hl 1 rfl) ?_
      refine lv_aload_n hx hb dL_law_349 rfl (lv_at hl 0 rfl) ?_
      refine lv_iload hx hb dL_law_350 (lv_at hl 4 rfl) ?_
      refine lv_iconst (v := 1) hx hb dL_law_352 (by decide) ?_
      refine lv_iadd hx hb dL_law_353 ?_
      refine va_sld hx hb hX hbl hbA w.2.2.2.1 hin1 dL_law_354 ?_
      rw [show xs (x4 + 1 : Int32).toNatClampNeg = z1 from hz1]
      obtain ⟨r, S1, T1, hC, hM, hRel1⟩ := hsim.2.2.2.2.1 S T hRel (z1)
      obtain ⟨hC, ehC⟩ := hC
      subst ehC
      refine cVi (k := 0) (As := [.int z1]) (rest := []) X hl.1 w okX11_rule obX11 rfl lmL_38 (kX11_rule hC) ⟨Nat.le_of_ble_eq_true rfl, Nat.le_of_ble_eq_true rfl⟩ ⟨rfl, rfl⟩ ⟨by show _ ≤ 601024; omega, by show _ ≤ 7293034; omega⟩ rfl rfl (Nat.le_of_ble_eq_true rfl) dL_law_355 (fun H locs hzz w => ?_)
      refine lv_aload_n hx hb dL_law_358 rfl (lv_at hl 2 rfl) ?_
      refine lv_aload_n hx hb dL_law_359 rfl (lv_at hl 0 rfl) ?_
      refine lv_iload hx hb dL_law_360 (lv_at hl 4 rfl) ?_
      refine lv_iconst (v := 1) hx hb dL_law_362 (by decide) ?_
      refine lv_iadd hx hb dL_law_363 ?_
      refine va_sld hx hb hX hbl hbA w.2.2.2.1 hin1 dL_law_364 ?_
      rw [show xs (x4 + 1 : Int32).toNatClampNeg = z1 from hz1]
      obtain ⟨hM, ehM⟩ := hM
      subst ehM
      refine cVi (k := 52) (As := [.int z1]) (rest := [.int r]) X hl.1 w okX12_rule obX12 rfl lmL_41 (kX12_rule hM) ⟨Nat.le_of_ble_eq_true rfl, Nat.le_of_ble_eq_true rfl⟩ ⟨rfl, rfl⟩ ⟨by show _ ≤ 601024; omega, by show _ ≤ 7293034; omega⟩ rfl rfl (Nat.le_of_ble_eq_true rfl) dL_law_365 (fun H locs hzz w => ?_)
      refine lv_icmp_eq (tgt := 1419) hx hb dL_law_368 (by decide) (fun q7 => ?_) (fun q7 => ?_)
      · exact NEXT _ _ _ _ _ _ _ _ w hRel1 (lv_sub hl [0, 1, 2, 3, 4] rfl)
      · exact absurd rfl q7
    by_cases sw5 : sw = 5
    · refine lv_tableIn (tgt := 373) hx hb dL_law_40 (by rw [sw5]; decide) (by rw [sw5]; decide) (by rw [sw5]; rfl) (by decide) ?_
      refine lv_aload_n hx hb dL_law_373 rfl (lv_at hl 1 rfl) ?_
      refine lv_aload_n hx hb dL_law_374 rfl (lv_at hl 0 rfl) ?_
      refine lv_iload hx hb dL_law_375 (lv_at hl 4 rfl) ?_
      refine lv_iconst (v := 1) hx hb dL_law_377 (by decide) ?_
      refine lv_iadd hx hb dL_law_378 ?_
      refine va_sld hx hb hX hbl hbA w.2.2.2.1 hin1 dL_law_379 ?_
      rw [show xs (x4 + 1 : Int32).toNatClampNeg = z1 from hz1]
      refine lv_aload_n hx hb dL_law_380 rfl (lv_at hl 0 rfl) ?_
      refine lv_iload hx hb dL_law_381 (lv_at hl 4 rfl) ?_
      refine lv_iconst (v := 2) hx hb dL_law_383 (by decide) ?_
      refine lv_iadd hx hb dL_law_384 ?_
      refine va_sld hx hb hX hbl hbA w.2.2.2.1 hin2 dL_law_385 ?_
      rw [show xs (x4 + 2 : Int32).toNatClampNeg = z2 from hz2]
      refine lv_aload_n hx hb dL_law_386 rfl (lv_at hl 3 rfl) ?_
      obtain ⟨vt, bt, T1, hC, hM, hM2, hM3, hRel1⟩ := hsim.2.2.2.2.2.1 S T hRel z1 z2
      refine va_calli (vx_runSW (As := [.ref (ad 0), .int z1, .int z2, .ref (ad 78)]) (rest := []) X (kL_thread (sa := sa) (sz := H.size) hst hC) (vx_cwSW 4 X.2.2.2.2 (gSW lmL_42) rfl rfl rfl (by decide +kernel) ⟨Nat.le_of_ble_eq_true rfl, Nat.le_of_ble_eq_true rfl⟩) ⟨PRET.blind, fun U hU hWm => ⟨rfl, w.pre hU hWm.alike, by rw [hU]; exact hEX.to hWm w.2.2.2.1.2.1 w.aa⟩⟩ rfl rfl hl.1 rfl (lv_room (Nat.le_of_ble_eq_true rfl)) dL_law_387 ⟨by show 79 + i + 1 ≤ 601024; omega, by show 21000 + 40 * i + 6 ≤ 7293034; omega⟩) w.2.2.2.1 (fun q _ h => w.aa q h) w.aa (fun r u t H locs ht hvm hp hB hz9 hk1 hS => ?_)
      obtain ⟨rfl, rfl⟩ := hp
      have w : WD D dA ad t1 t2 A s S T (thO vt o) H locs := ⟨w.1, by rw [← ht]; exact hB.1, ⟨hB.2.2.1, fun k q hk => w.aa _ (hB.2.2.2 k q hk)⟩, hS, w.2.2.2.2⟩
      refine W.widen (k := 79 + (i + 6)) (n := 21000 + 40 * (i + 6)) (by omega) (by omega) ?_
      refine lv_istore (lv' := [(5, .int (thR vt)), (0, .ref b), (1, .ref (ad 0)), (2, .ref (ad 52)), (3, .ref (ad 78)), (4, .int x4)]) hx hb dL_law_390 hl (by decide) rfl (fun ls hl => ?_)
      refine lv_aload_n hx hb dL_law_392 rfl (lv_at hl 3 rfl) ?_
      refine lv_aload_n hx hb dL_law_393 rfl (lv_at hl 1 rfl) ?_
      refine lv_iload hx hb dL_law_394 (lv_at hl 5 rfl) ?_
      refine lv_iconst (v := 1) hx hb dL_law_396 (by decide) ?_
      refine lv_iadd hx hb dL_law_397 ?_
      refine va_sld hx hb hX hbl hbA w.2.2.2.1 hin1 dL_law_398 ?_
      rw [show xs (x4 + 1 : Int32).toNatClampNeg = z1 from hz1]
      refine lv_aload_n hx hb dL_law_399 rfl (lv_at hl 1 rfl) ?_
      refine lv_iload hx hb dL_law_400 (lv_at hl 5 rfl) ?_
      refine lv_iconst (v := 2) hx hb dL_law_402 (by decide) ?_
      refine lv_iadd hx hb dL_law_403 ?_
      refine va_sld hx hb hX hbl hbA w.2.2.2.1 hin2 dL_law_404 ?_
      rw [show xs (x4 + 2 : Int32).toNatClampNeg = z2 from hz2]
      refine cVi (k := 52) (As := [.int z1, .int z2]) (rest := []) X hl.1 w okX12_thread obX12 rfl lmL_47 (kX12_thread hM) ⟨Nat.le_of_ble_eq_true rfl, Nat.le_of_ble_eq_true rfl⟩ ⟨rfl, rfl⟩ ⟨by show _ ≤ 601024; omega, by show _ ≤ 7293034; omega⟩ rfl rfl (Nat.le_of_ble_eq_true rfl) dL_law_405 (fun H locs hzz w => ?_)
      refine lv_istore (lv' := [(6, .int bt), (5, .int (thR vt)), (0, .ref b), (1, .ref (ad 0)), (2, .ref (ad 52)), (3, .ref (ad 78)), (4, .int x4)]) hx hb dL_law_408 hl (by decide) rfl (fun ls hl => ?_)
      refine lv_aload_n hx hb dL_law_410 rfl (lv_at hl 4 rfl) ?_
      refine cVi (k := 52) (As := []) (rest := []) X hl.1 w okX12_thrown obX12 rfl lmL_48 (kX12_thrown hM2) ⟨Nat.le_of_ble_eq_true rfl, Nat.le_of_ble_eq_true rfl⟩ ⟨rfl, rfl⟩ ⟨by show _ ≤ 601024; omega, by show _ ≤ 7293034; omega⟩ rfl rfl (Nat.le_of_ble_eq_true rfl) dL_law_411 (fun H locs hzz w => ?_)
      refine lv_iload hx hb dL_law_414 (lv_at hl 1 rfl) ?_
      refine lv_icmp_eq (tgt := 421) hx hb dL_law_416 (by decide) (fun q7 => ?_) (fun q7 => ?_)
      · refine lv_iload hx hb dL_law_421 (lv_at hl 1 rfl) ?_
        refine lv_if_ne (tgt := 438) hx hb dL_law_423 (by decide) (fun q5 => ?_) (fun q5 => ?_)
        · refine lv_goto (tgt := 1419) hx hb dL_law_438 (by decide) ?_
          exact NEXT _ _ _ _ _ _ _ _ w hRel1 (lv_sub hl [2, 3, 4, 5, 6] rfl)
        · obtain ⟨xt, rfl⟩ : ∃ x, vt = some x := by
            cases vt with
            | none => exact absurd q5 (by decide)
            | some x => exact ⟨x, rfl⟩
          have ext := hM3 xt rfl
          subst ext
          refine lv_aload_n hx hb dL_law_426 rfl (lv_at hl 5 rfl) ?_
          refine lv_iconst (v := 0) hx hb dL_law_427 (by decide) ?_
          refine lalO X w rfl dL_law_428 ?_
          refine lv_iload hx hb dL_law_429 (lv_at hl 0 rfl) ?_
          refine lv_i2l hx hb dL_law_431 rfl ?_
          refine W.lcmp hx hb dL_law_432 ?_
          refine lv_if_eq (tgt := 438) hx hb dL_law_433 (by decide) (fun q6 => ?_) (fun q6 => ?_)
          · refine lv_goto (tgt := 1419) hx hb dL_law_438 (by decide) ?_
            exact NEXT _ _ _ _ _ _ _ _ w hRel1 (lv_sub hl [2, 3, 4, 5, 6] rfl)
          · exact absurd (lg_self _) q6
      · exact absurd rfl q7
    by_cases sw6 : sw = 6
    · refine lv_tableIn (tgt := 441) hx hb dL_law_40 (by rw [sw6]; decide) (by rw [sw6]; decide) (by rw [sw6]; rfl) (by decide) ?_
      refine W.widen (k := 79 + (i + 6)) (n := 21000 + 40 * (i + 6)) (by omega) (by omega) ?_
      refine lv_aload_n hx hb dL_law_441 rfl (lv_at hl 1 rfl) ?_
      refine lv_aload_n hx hb dL_law_442 rfl (lv_at hl 0 rfl) ?_
      refine lv_iload hx hb dL_law_443 (lv_at hl 4 rfl) ?_
      refine lv_iconst (v := 1) hx hb dL_law_445 (by decide) ?_
      refine lv_iadd hx hb dL_law_446 ?_
      refine va_sld hx hb hX hbl hbA w.2.2.2.1 hin1 dL_law_447 ?_
      rw [show xs (x4 + 1 : Int32).toNatClampNeg = z1 from hz1]
      obtain ⟨r, S1, T1, hC, hM, hRel1⟩ := hsim.2.2.2.2.2.2.1 S T hRel (z1)
      refine cVi (k := 0) (As := [.int z1]) (rest := []) X hl.1 w okX11_law obX11 rfl lmL_52 (kX11_law hC) ⟨Nat.le_of_ble_eq_true rfl, Nat.le_of_ble_eq_true rfl⟩ ⟨rfl, rfl⟩ ⟨by show _ ≤ 601024; omega, by show _ ≤ 7293034; omega⟩ rfl rfl (Nat.le_of_ble_eq_true rfl) dL_law_448 (fun H locs hzz w => ?_)
      refine lv_aload_n hx hb dL_law_451 rfl (lv_at hl 2 rfl) ?_
      refine lv_aload_n hx hb dL_law_452 rfl (lv_at hl 0 rfl) ?_
      refine lv_iload hx hb dL_law_453 (lv_at hl 4 rfl) ?_
      refine lv_iconst (v := 1) hx hb dL_law_455 (by decide) ?_
      refine lv_iadd hx hb dL_law_456 ?_
      refine va_sld hx hb hX hbl hbA w.2.2.2.1 hin1 dL_law_457 ?_
      rw [show xs (x4 + 1 : Int32).toNatClampNeg = z1 from hz1]
      refine cVi (k := 52) (As := [.int z1]) (rest := [.int r]) X hl.1 w okX12_law obX12 rfl lmL_55 (kX12_law hM) ⟨Nat.le_of_ble_eq_true rfl, Nat.le_of_ble_eq_true rfl⟩ ⟨rfl, rfl⟩ ⟨by show _ ≤ 601024; omega, by show _ ≤ 7293034; omega⟩ rfl rfl (Nat.le_of_ble_eq_true rfl) dL_law_458 (fun H locs hzz w => ?_)
      refine lv_icmp_eq (tgt := 1419) hx hb dL_law_461 (by decide) (fun q7 => ?_) (fun q7 => ?_)
      · exact NEXT _ _ _ _ _ _ _ _ w hRel1 (lv_sub hl [0, 1, 2, 3, 4] rfl)
      · exact absurd rfl q7
    by_cases sw7 : sw = 7
    · refine lv_tableIn (tgt := 466) hx hb dL_law_40 (by rw [sw7]; decide) (by rw [sw7]; decide) (by rw [sw7]; rfl) (by decide) ?_
      refine W.widen (k := 79 + (i + 6)) (n := 21000 + 40 * (i + 6)) (by omega) (by omega) ?_
      refine lv_aload_n hx hb dL_law_466 rfl (lv_at hl 1 rfl) ?_
      refine lv_aload_n hx hb dL_law_467 rfl (lv_at hl 0 rfl) ?_
      refine lv_iload hx hb dL_law_468 (lv_at hl 4 rfl) ?_
      refine lv_iconst (v := 1) hx hb dL_law_470 (by decide) ?_
      refine lv_iadd hx hb dL_law_471 ?_
      refine va_sld hx hb hX hbl hbA w.2.2.2.1 hin1 dL_law_472 ?_
      rw [show xs (x4 + 1 : Int32).toNatClampNeg = z1 from hz1]
      refine lv_aload_n hx hb dL_law_473 rfl (lv_at hl 0 rfl) ?_
      refine lv_iload hx hb dL_law_474 (lv_at hl 4 rfl) ?_
      refine lv_iconst (v := 2) hx hb dL_law_476 (by decide) ?_
      refine lv_iadd hx hb dL_law_477 ?_
      refine va_sld hx hb hX hbl hbA w.2.2.2.1 hin2 dL_law_478 ?_
      rw [show xs (x4 + 2 : Int32).toNatClampNeg = z2 from hz2]
      obtain ⟨r, S1, T1, hC, hM, hRel1⟩ := hsim.2.2.2.2.2.2.2.1 S T hRel (z1) (z2)
      refine cVi (k := 0) (As := [.int z1, .int z2]) (rest := []) X hl.1 w okX11_attempt obX11 rfl lmL_56 (kX11_attempt hC) ⟨Nat.le_of_ble_eq_true rfl, Nat.le_of_ble_eq_true rfl⟩ ⟨rfl, rfl⟩ ⟨by show _ ≤ 601024; omega, by show _ ≤ 7293034; omega⟩ rfl rfl (Nat.le_of_ble_eq_true rfl) dL_law_479 (fun H locs hzz w => ?_)
      refine lv_aload_n hx hb dL_law_482 rfl (lv_at hl 2 rfl) ?_
      refine lv_aload_n hx hb dL_law_483 rfl (lv_at hl 0 rfl) ?_
      refine lv_iload hx hb dL_law_484 (lv_at hl 4 rfl) ?_
      refine lv_iconst (v := 1) hx hb dL_law_486 (by decide) ?_
      refine lv_iadd hx hb dL_law_487 ?_
      refine va_sld hx hb hX hbl hbA w.2.2.2.1 hin1 dL_law_488 ?_
      rw [show xs (x4 + 1 : Int32).toNatClampNeg = z1 from hz1]
      refine lv_aload_n hx hb dL_law_489 rfl (lv_at hl 0 rfl) ?_
      refine lv_iload hx hb dL_law_490 (lv_at hl 4 rfl) ?_
      refine lv_iconst (v := 2) hx hb dL_law_492 (by decide) ?_
      refine lv_iadd hx hb dL_law_493 ?_
      refine va_sld hx hb hX hbl hbA w.2.2.2.1 hin2 dL_law_494 ?_
      rw [show xs (x4 + 2 : Int32).toNatClampNeg = z2 from hz2]
      refine cVi (k := 52) (As := [.int z1, .int z2]) (rest := [.int r]) X hl.1 w okX12_attempt obX12 rfl lmL_59 (kX12_attempt hM) ⟨Nat.le_of_ble_eq_true rfl, Nat.le_of_ble_eq_true rfl⟩ ⟨rfl, rfl⟩ ⟨by show _ ≤ 601024; omega, by show _ ≤ 7293034; omega⟩ rfl rfl (Nat.le_of_ble_eq_true rfl) dL_law_495 (fun H locs hzz w => ?_)
      refine lv_icmp_eq (tgt := 1419) hx hb dL_law_498 (by decide) (fun q7 => ?_) (fun q7 => ?_)
      · exact NEXT _ _ _ _ _ _ _ _ w hRel1 (lv_sub hl [0, 1, 2, 3, 4] rfl)
      · exact absurd rfl q7
    by_cases sw8 : sw = 8
    · refine lv_tableIn (tgt := 503) hx hb dL_law_40 (by rw [sw8]; decide) (by rw [sw8]; decide) (by rw [sw8]; rfl) (by decide) ?_
      refine W.widen (k := 79 + (i + 6)) (n := 21000 + 40 * (i + 6)) (by omega) (by omega) ?_
      refine lv_aload_n hx hb dL_law_503 rfl (lv_at hl 1 rfl) ?_
      refine lv_aload_n hx hb dL_law_504 rfl (lv_at hl 0 rfl) ?_
      refine lv_iload hx hb dL_law_505 (lv_at hl 4 rfl) ?_
      refine lv_iconst (v := 1) hx hb dL_law_507 (by decide) ?_
      refine lv_iadd hx hb dL_law_508 ?_
      refine va_sld hx hb hX hbl hbA w.2.2.2.1 hin1 dL_law_509 ?_
      rw [show xs (x4 + 1 : Int32).toNatClampNeg = z1 from hz1]
      obtain ⟨r, S1, T1, hC, hM, hRel1⟩ := hsim.2.2.2.2.2.2.2.2.1 S T hRel (z1)
      refine cVi (k := 0) (As := [.int z1]) (rest := []) X hl.1 w okX11_pull obX11 rfl lmL_60 (kX11_pull hC) ⟨Nat.le_of_ble_eq_true rfl, Nat.le_of_ble_eq_true rfl⟩ ⟨rfl, rfl⟩ ⟨by show _ ≤ 601024; omega, by show _ ≤ 7293034; omega⟩ rfl rfl (Nat.le_of_ble_eq_true rfl) dL_law_510 (fun H locs hzz w => ?_)
      refine lv_aload_n hx hb dL_law_513 rfl (lv_at hl 2 rfl) ?_
      refine lv_aload_n hx hb dL_law_514 rfl (lv_at hl 0 rfl) ?_
      refine lv_iload hx hb dL_law_515 (lv_at hl 4 rfl) ?_
      refine lv_iconst (v := 1) hx hb dL_law_517 (by decide) ?_
      refine lv_iadd hx hb dL_law_518 ?_
      refine va_sld hx hb hX hbl hbA w.2.2.2.1 hin1 dL_law_519 ?_
      rw [show xs (x4 + 1 : Int32).toNatClampNeg = z1 from hz1]
      refine cVi (k := 52) (As := [.int z1]) (rest := [.int r]) X hl.1 w okX12_pull obX12 rfl lmL_63 (kX12_pull hM) ⟨Nat.le_of_ble_eq_true rfl, Nat.le_of_ble_eq_true rfl⟩ ⟨rfl, rfl⟩ ⟨by show _ ≤ 601024; omega, by show _ ≤ 7293034; omega⟩ rfl rfl (Nat.le_of_ble_eq_true rfl) dL_law_520 (fun H locs hzz w => ?_)
      refine lv_icmp_eq (tgt := 1419) hx hb dL_law_523 (by decide) (fun q7 => ?_) (fun q7 => ?_)
      · exact NEXT _ _ _ _ _ _ _ _ w hRel1 (lv_sub hl [0, 1, 2, 3, 4] rfl)
      · exact absurd rfl q7
    by_cases sw9 : sw = 9
    · refine lv_tableIn (tgt := 528) hx hb dL_law_40 (by rw [sw9]; decide) (by rw [sw9]; decide) (by rw [sw9]; rfl) (by decide) ?_
      refine W.widen (k := 79 + (i + 6)) (n := 21000 + 40 * (i + 6)) (by omega) (by omega) ?_
      refine lv_aload_n hx hb dL_law_528 rfl (lv_at hl 1 rfl) ?_
      refine lv_aload_n hx hb dL_law_529 rfl (lv_at hl 0 rfl) ?_
      refine lv_iload hx hb dL_law_530 (lv_at hl 4 rfl) ?_
      refine lv_iconst (v := 1) hx hb dL_law_532 (by decide) ?_
      refine lv_iadd hx hb dL_law_533 ?_
      refine va_sld hx hb hX hbl hbA w.2.2.2.1 hin1 dL_law_534 ?_
      rw [show xs (x4 + 1 : Int32).toNatClampNeg = z1 from hz1]
      obtain ⟨r, S1, T1, hC, hM, hRel1⟩ := hsim.2.2.2.2.2.2.2.2.2.1 S T hRel (z1)
      refine cVi (k := 0) (As := [.int z1]) (rest := []) X hl.1 w okX11_sell obX11 rfl lmL_64 (kX11_sell hC) ⟨Nat.le_of_ble_eq_true rfl, Nat.le_of_ble_eq_true rfl⟩ ⟨rfl, rfl⟩ ⟨by show _ ≤ 601024; omega, by show _ ≤ 7293034; omega⟩ rfl rfl (Nat.le_of_ble_eq_true rfl) dL_law_535 (fun H locs hzz w => ?_)
      refine lv_aload_n hx hb dL_law_538 rfl (lv_at hl 2 rfl) ?_
      refine lv_aload_n hx hb dL_law_539 rfl (lv_at hl 0 rfl) ?_
      refine lv_iload hx hb dL_law_540 (lv_at hl 4 rfl) ?_
      refine lv_iconst (v := 1) hx hb dL_law_542 (by decide) ?_
      refine lv_iadd hx hb dL_law_543 ?_
      refine va_sld hx hb hX hbl hbA w.2.2.2.1 hin1 dL_law_544 ?_
      rw [show xs (x4 + 1 : Int32).toNatClampNeg = z1 from hz1]
      refine cVi (k := 52) (As := [.int z1]) (rest := [.int r]) X hl.1 w okX12_sell obX12 rfl lmL_67 (kX12_sell hM) ⟨Nat.le_of_ble_eq_true rfl, Nat.le_of_ble_eq_true rfl⟩ ⟨rfl, rfl⟩ ⟨by show _ ≤ 601024; omega, by show _ ≤ 7293034; omega⟩ rfl rfl (Nat.le_of_ble_eq_true rfl) dL_law_545 (fun H locs hzz w => ?_)
      refine lv_icmp_eq (tgt := 1419) hx hb dL_law_548 (by decide) (fun q7 => ?_) (fun q7 => ?_)
      · exact NEXT _ _ _ _ _ _ _ _ w hRel1 (lv_sub hl [0, 1, 2, 3, 4] rfl)
      · exact absurd rfl q7
    by_cases sw10 : sw = 10
    · refine lv_tableIn (tgt := 553) hx hb dL_law_40 (by rw [sw10]; decide) (by rw [sw10]; decide) (by rw [sw10]; rfl) (by decide) ?_
      refine W.widen (k := 79 + (i + 6)) (n := 21000 + 40 * (i + 6)) (by omega) (by omega) ?_
      refine lv_aload_n hx hb dL_law_553 rfl (lv_at hl 1 rfl) ?_
      refine lv_aload_n hx hb dL_law_554 rfl (lv_at hl 0 rfl) ?_
      refine lv_iload hx hb dL_law_555 (lv_at hl 4 rfl) ?_
      refine lv_iconst (v := 1) hx hb dL_law_557 (by decide) ?_
      refine lv_iadd hx hb dL_law_558 ?_
      refine va_sld hx hb hX hbl hbA w.2.2.2.1 hin1 dL_law_559 ?_
      rw [show xs (x4 + 1 : Int32).toNatClampNeg = z1 from hz1]
      refine lv_aload_n hx hb dL_law_560 rfl (lv_at hl 0 rfl) ?_
      refine lv_iload hx hb dL_law_561 (lv_at hl 4 rfl) ?_
      refine lv_iconst (v := 2) hx hb dL_law_563 (by decide) ?_
      refine lv_iadd hx hb dL_law_564 ?_
      refine va_sld hx hb hX hbl hbA w.2.2.2.1 hin2 dL_law_565 ?_
      rw [show xs (x4 + 2 : Int32).toNatClampNeg = z2 from hz2]
      obtain ⟨r, S1, T1, hC, hM, hRel1⟩ := hsim.2.2.2.2.2.2.2.2.2.2.1 S T hRel (z1) (z2)
      refine cVi (k := 0) (As := [.int z1, .int z2]) (rest := []) X hl.1 w okX11_dye obX11 rfl lmL_68 (kX11_dye hC) ⟨Nat.le_of_ble_eq_true rfl, Nat.le_of_ble_eq_true rfl⟩ ⟨rfl, rfl⟩ ⟨by show _ ≤ 601024; omega, by show _ ≤ 7293034; omega⟩ rfl rfl (Nat.le_of_ble_eq_true rfl) dL_law_566 (fun H locs hzz w => ?_)
      refine lv_aload_n hx hb dL_law_569 rfl (lv_at hl 2 rfl) ?_
      refine lv_aload_n hx hb dL_law_570 rfl (lv_at hl 0 rfl) ?_
      refine lv_iload hx hb dL_law_571 (lv_at hl 4 rfl) ?_
      refine lv_iconst (v := 1) hx hb dL_law_573 (by decide) ?_
      refine lv_iadd hx hb dL_law_574 ?_
      refine va_sld hx hb hX hbl hbA w.2.2.2.1 hin1 dL_law_575 ?_
      rw [show xs (x4 + 1 : Int32).toNatClampNeg = z1 from hz1]
      refine lv_aload_n hx hb dL_law_576 rfl (lv_at hl 0 rfl) ?_
      refine lv_iload hx hb dL_law_577 (lv_at hl 4 rfl) ?_
      refine lv_iconst (v := 2) hx hb dL_law_579 (by decide) ?_
      refine lv_iadd hx hb dL_law_580 ?_
      refine va_sld hx hb hX hbl hbA w.2.2.2.1 hin2 dL_law_581 ?_
      rw [show xs (x4 + 2 : Int32).toNatClampNeg = z2 from hz2]
      refine cVi (k := 52) (As := [.int z1, .int z2]) (rest := [.int r]) X hl.1 w okX12_dye obX12 rfl lmL_71 (kX12_dye hM) ⟨Nat.le_of_ble_eq_true rfl, Nat.le_of_ble_eq_true rfl⟩ ⟨rfl, rfl⟩ ⟨by show _ ≤ 601024; omega, by show _ ≤ 7293034; omega⟩ rfl rfl (Nat.le_of_ble_eq_true rfl) dL_law_582 (fun H locs hzz w => ?_)
      refine lv_icmp_eq (tgt := 1419) hx hb dL_law_585 (by decide) (fun q7 => ?_) (fun q7 => ?_)
      · exact NEXT _ _ _ _ _ _ _ _ w hRel1 (lv_sub hl [0, 1, 2, 3, 4] rfl)
      · exact absurd rfl q7
    by_cases sw11 : sw = 11
    · refine lv_tableIn (tgt := 590) hx hb dL_law_40 (by rw [sw11]; decide) (by rw [sw11]; decide) (by rw [sw11]; rfl) (by decide) ?_
      refine W.widen (k := 79 + (i + 6)) (n := 21000 + 40 * (i + 6)) (by omega) (by omega) ?_
      refine lv_aload_n hx hb dL_law_590 rfl (lv_at hl 1 rfl) ?_
      refine lv_aload_n hx hb dL_law_591 rfl (lv_at hl 0 rfl) ?_
      refine lv_iload hx hb dL_law_592 (lv_at hl 4 rfl) ?_
      refine lv_iconst (v := 1) hx hb dL_law_594 (by decide) ?_
      refine lv_iadd hx hb dL_law_595 ?_
      refine va_sld hx hb hX hbl hbA w.2.2.2.1 hin1 dL_law_596 ?_
      rw [show xs (x4 + 1 : Int32).toNatClampNeg = z1 from hz1]
      obtain ⟨r, S1, T1, hC, hM, hRel1⟩ := hsim.2.2.2.2.2.2.2.2.2.2.2.1 S T hRel (z1)
      refine cVi (k := 0) (As := [.int z1]) (rest := []) X hl.1 w okX11_give obX11 rfl lmL_72 (kX11_give hC) ⟨Nat.le_of_ble_eq_true rfl, Nat.le_of_ble_eq_true rfl⟩ ⟨rfl, rfl⟩ ⟨by show _ ≤ 601024; omega, by show _ ≤ 7293034; omega⟩ rfl rfl (Nat.le_of_ble_eq_true rfl) dL_law_597 (fun H locs hzz w => ?_)
      refine lv_aload_n hx hb dL_law_600 rfl (lv_at hl 2 rfl) ?_
      refine lv_aload_n hx hb dL_law_601 rfl (lv_at hl 0 rfl) ?_
      refine lv_iload hx hb dL_law_602 (lv_at hl 4 rfl) ?_
      refine lv_iconst (v := 1) hx hb dL_law_604 (by decide) ?_
      refine lv_iadd hx hb dL_law_605 ?_
      refine va_sld hx hb hX hbl hbA w.2.2.2.1 hin1 dL_law_606 ?_
      rw [show xs (x4 + 1 : Int32).toNatClampNeg = z1 from hz1]
      refine cVi (k := 52) (As := [.int z1]) (rest := [.int r]) X hl.1 w okX12_give obX12 rfl lmL_75 (kX12_give hM) ⟨Nat.le_of_ble_eq_true rfl, Nat.le_of_ble_eq_true rfl⟩ ⟨rfl, rfl⟩ ⟨by show _ ≤ 601024; omega, by show _ ≤ 7293034; omega⟩ rfl rfl (Nat.le_of_ble_eq_true rfl) dL_law_607 (fun H locs hzz w => ?_)
      refine lv_icmp_eq (tgt := 1419) hx hb dL_law_610 (by decide) (fun q7 => ?_) (fun q7 => ?_)
      · exact NEXT _ _ _ _ _ _ _ _ w hRel1 (lv_sub hl [0, 1, 2, 3, 4] rfl)
      · exact absurd rfl q7
    by_cases sw12 : sw = 12
    · refine lv_tableIn (tgt := 615) hx hb dL_law_40 (by rw [sw12]; decide) (by rw [sw12]; decide) (by rw [sw12]; rfl) (by decide) ?_
      refine W.widen (k := 79 + (i + 6)) (n := 21000 + 40 * (i + 6)) (by omega) (by omega) ?_
      refine lv_aload_n hx hb dL_law_615 rfl (lv_at hl 1 rfl) ?_
      refine lv_aload_n hx hb dL_law_616 rfl (lv_at hl 0 rfl) ?_
      refine lv_iload hx hb dL_law_617 (lv_at hl 4 rfl) ?_
      refine lv_iconst (v := 1) hx hb dL_law_619 (by decide) ?_
      refine lv_iadd hx hb dL_law_620 ?_
      refine va_sld hx hb hX hbl hbA w.2.2.2.1 hin1 dL_law_621 ?_
      rw [show xs (x4 + 1 : Int32).toNatClampNeg = z1 from hz1]
      obtain ⟨r, S1, T1, hC, hM, hRel1⟩ := hsim.2.2.2.2.2.2.2.2.2.2.2.2.1 S T hRel (z1)
      refine cVi (k := 0) (As := [.int z1]) (rest := []) X hl.1 w okX11_days obX11 rfl lmL_76 (kX11_days hC) ⟨Nat.le_of_ble_eq_true rfl, Nat.le_of_ble_eq_true rfl⟩ ⟨rfl, rfl⟩ ⟨by show _ ≤ 601024; omega, by show _ ≤ 7293034; omega⟩ rfl rfl (Nat.le_of_ble_eq_true rfl) dL_law_622 (fun H locs hzz w => ?_)
      refine lv_aload_n hx hb dL_law_625 rfl (lv_at hl 2 rfl) ?_
      refine lv_aload_n hx hb dL_law_626 rfl (lv_at hl 0 rfl) ?_
      refine lv_iload hx hb dL_law_627 (lv_at hl 4 rfl) ?_
      refine lv_iconst (v := 1) hx hb dL_law_629 (by decide) ?_
      refine lv_iadd hx hb dL_law_630 ?_
      refine va_sld hx hb hX hbl hbA w.2.2.2.1 hin1 dL_law_631 ?_
      rw [show xs (x4 + 1 : Int32).toNatClampNeg = z1 from hz1]
      refine cVi (k := 52) (As := [.int z1]) (rest := [.int r]) X hl.1 w okX12_days obX12 rfl lmL_79 (kX12_days hM) ⟨Nat.le_of_ble_eq_true rfl, Nat.le_of_ble_eq_true rfl⟩ ⟨rfl, rfl⟩ ⟨by show _ ≤ 601024; omega, by show _ ≤ 7293034; omega⟩ rfl rfl (Nat.le_of_ble_eq_true rfl) dL_law_632 (fun H locs hzz w => ?_)
      refine lv_icmp_eq (tgt := 1419) hx hb dL_law_635 (by decide) (fun q7 => ?_) (fun q7 => ?_)
      · exact NEXT _ _ _ _ _ _ _ _ w hRel1 (lv_sub hl [0, 1, 2, 3, 4] rfl)
      · exact absurd rfl q7
    by_cases sw13 : sw = 13
    · refine lv_tableIn (tgt := 640) hx hb dL_law_40 (by rw [sw13]; decide) (by rw [sw13]; decide) (by rw [sw13]; rfl) (by decide) ?_
      refine W.widen (k := 79 + (i + 6)) (n := 21000 + 40 * (i + 6)) (by omega) (by omega) ?_
      refine lv_aload_n hx hb dL_law_640 rfl (lv_at hl 1 rfl) ?_
      refine lv_aload_n hx hb dL_law_641 rfl (lv_at hl 0 rfl) ?_
      refine lv_iload hx hb dL_law_642 (lv_at hl 4 rfl) ?_
      refine lv_iconst (v := 1) hx hb dL_law_644 (by decide) ?_
      refine lv_iadd hx hb dL_law_645 ?_
      refine va_sld hx hb hX hbl hbA w.2.2.2.1 hin1 dL_law_646 ?_
      rw [show xs (x4 + 1 : Int32).toNatClampNeg = z1 from hz1]
      obtain ⟨r, S1, T1, hC, hM, hRel1⟩ := hsim.2.2.2.2.2.2.2.2.2.2.2.2.2.1 S T hRel (z1)
      refine cVi (k := 0) (As := [.int z1]) (rest := []) X hl.1 w okX11_wakes obX11 rfl lmL_80 (kX11_wakes hC) ⟨Nat.le_of_ble_eq_true rfl, Nat.le_of_ble_eq_true rfl⟩ ⟨rfl, rfl⟩ ⟨by show _ ≤ 601024; omega, by show _ ≤ 7293034; omega⟩ rfl rfl (Nat.le_of_ble_eq_true rfl) dL_law_647 (fun H locs hzz w => ?_)
      refine lv_aload_n hx hb dL_law_650 rfl (lv_at hl 2 rfl) ?_
      refine lv_aload_n hx hb dL_law_651 rfl (lv_at hl 0 rfl) ?_
      refine lv_iload hx hb dL_law_652 (lv_at hl 4 rfl) ?_
      refine lv_iconst (v := 1) hx hb dL_law_654 (by decide) ?_
      refine lv_iadd hx hb dL_law_655 ?_
      refine va_sld hx hb hX hbl hbA w.2.2.2.1 hin1 dL_law_656 ?_
      rw [show xs (x4 + 1 : Int32).toNatClampNeg = z1 from hz1]
      refine cVi (k := 52) (As := [.int z1]) (rest := [.int r]) X hl.1 w okX12_wakes obX12 rfl lmL_83 (kX12_wakes hM) ⟨Nat.le_of_ble_eq_true rfl, Nat.le_of_ble_eq_true rfl⟩ ⟨rfl, rfl⟩ ⟨by show _ ≤ 601024; omega, by show _ ≤ 7293034; omega⟩ rfl rfl (Nat.le_of_ble_eq_true rfl) dL_law_657 (fun H locs hzz w => ?_)
      refine lv_icmp_eq (tgt := 1419) hx hb dL_law_660 (by decide) (fun q7 => ?_) (fun q7 => ?_)
      · exact NEXT _ _ _ _ _ _ _ _ w hRel1 (lv_sub hl [0, 1, 2, 3, 4] rfl)
      · exact absurd rfl q7
    by_cases sw14 : sw = 14
    · refine lv_tableIn (tgt := 665) hx hb dL_law_40 (by rw [sw14]; decide) (by rw [sw14]; decide) (by rw [sw14]; rfl) (by decide) ?_
      refine W.widen (k := 79 + (i + 6)) (n := 21000 + 40 * (i + 6)) (by omega) (by omega) ?_
      refine lv_aload_n hx hb dL_law_665 rfl (lv_at hl 1 rfl) ?_
      refine lv_aload_n hx hb dL_law_666 rfl (lv_at hl 0 rfl) ?_
      refine lv_iload hx hb dL_law_667 (lv_at hl 4 rfl) ?_
      refine lv_iconst (v := 1) hx hb dL_law_669 (by decide) ?_
      refine lv_iadd hx hb dL_law_670 ?_
      refine va_sld hx hb hX hbl hbA w.2.2.2.1 hin1 dL_law_671 ?_
      rw [show xs (x4 + 1 : Int32).toNatClampNeg = z1 from hz1]
      refine lv_aload_n hx hb dL_law_672 rfl (lv_at hl 0 rfl) ?_
      refine lv_iload hx hb dL_law_673 (lv_at hl 4 rfl) ?_
      refine lv_iconst (v := 2) hx hb dL_law_675 (by decide) ?_
      refine lv_iadd hx hb dL_law_676 ?_
      refine va_sld hx hb hX hbl hbA w.2.2.2.1 hin2 dL_law_677 ?_
      rw [show xs (x4 + 2 : Int32).toNatClampNeg = z2 from hz2]
      refine lv_i2l hx hb dL_law_678 rfl ?_
      refine lv_bipush (v := 32) hx hb dL_law_679 (by decide) ?_
      refine lv_lshl hx hb dL_law_681 rfl ?_
      refine lv_aload_n hx hb dL_law_682 rfl (lv_at hl 0 rfl) ?_
      refine lv_iload hx hb dL_law_683 (lv_at hl 4 rfl) ?_
      refine lv_iconst (v := 3) hx hb dL_law_685 (by decide) ?_
      refine lv_iadd hx hb dL_law_686 ?_
      refine va_sld hx hb hX hbl hbA w.2.2.2.1 hin3 dL_law_687 ?_
      rw [show xs (x4 + 3 : Int32).toNatClampNeg = z3 from hz3]
      refine lv_i2l hx hb dL_law_688 rfl ?_
      refine lv_ldc2 X.1 X.2.1 X.2.2.2.1 (X.2.2.2.2 _ lcL_84) dL_law_689 ?_
      refine lv_land hx hb dL_law_692 ?_
      refine lv_lor hx hb dL_law_693 ?_
      obtain ⟨r, S1, T1, hC, hM, hRel1⟩ := hsim.2.2.2.2.2.2.2.2.2.2.2.2.2.2.1 S T hRel (z1) (((((z2 : Int32).toInt64) <<< (Int32.toInt64 32 &&& 63)) ||| (((z3 : Int32).toInt64) &&& 4294967295)))
      refine cVi (k := 0) (As := [.int z1, .long ((((z2 : Int32).toInt64) <<< (Int32.toInt64 32 &&& 63)) ||| (((z3 : Int32).toInt64) &&& 4294967295))]) (rest := []) X hl.1 w okX11_years obX11 rfl lmL_86 (kX11_years hC) ⟨Nat.le_of_ble_eq_true rfl, Nat.le_of_ble_eq_true rfl⟩ ⟨rfl, rfl⟩ ⟨by show _ ≤ 601024; omega, by show _ ≤ 7293034; omega⟩ rfl rfl (Nat.le_of_ble_eq_true rfl) dL_law_694 (fun H locs hzz w => ?_)
      refine lv_aload_n hx hb dL_law_697 rfl (lv_at hl 2 rfl) ?_
      refine lv_aload_n hx hb dL_law_698 rfl (lv_at hl 0 rfl) ?_
      refine lv_iload hx hb dL_law_699 (lv_at hl 4 rfl) ?_
      refine lv_iconst (v := 1) hx hb dL_law_701 (by decide) ?_
      refine lv_iadd hx hb dL_law_702 ?_
      refine va_sld hx hb hX hbl hbA w.2.2.2.1 hin1 dL_law_703 ?_
      rw [show xs (x4 + 1 : Int32).toNatClampNeg = z1 from hz1]
      refine lv_aload_n hx hb dL_law_704 rfl (lv_at hl 0 rfl) ?_
      refine lv_iload hx hb dL_law_705 (lv_at hl 4 rfl) ?_
      refine lv_iconst (v := 2) hx hb dL_law_707 (by decide) ?_
      refine lv_iadd hx hb dL_law_708 ?_
      refine va_sld hx hb hX hbl hbA w.2.2.2.1 hin2 dL_law_709 ?_
      rw [show xs (x4 + 2 : Int32).toNatClampNeg = z2 from hz2]
      refine lv_i2l hx hb dL_law_710 rfl ?_
      refine lv_bipush (v := 32) hx hb dL_law_711 (by decide) ?_
      refine lv_lshl hx hb dL_law_713 rfl ?_
      refine lv_aload_n hx hb dL_law_714 rfl (lv_at hl 0 rfl) ?_
      refine lv_iload hx hb dL_law_715 (lv_at hl 4 rfl) ?_
      refine lv_iconst (v := 3) hx hb dL_law_717 (by decide) ?_
      refine lv_iadd hx hb dL_law_718 ?_
      refine va_sld hx hb hX hbl hbA w.2.2.2.1 hin3 dL_law_719 ?_
      rw [show xs (x4 + 3 : Int32).toNatClampNeg = z3 from hz3]
      refine lv_i2l hx hb dL_law_720 rfl ?_
      refine lv_ldc2 X.1 X.2.1 X.2.2.2.1 (X.2.2.2.2 _ lcL_84) dL_law_721 ?_
      refine lv_land hx hb dL_law_724 ?_
      refine lv_lor hx hb dL_law_725 ?_
      refine cVi (k := 52) (As := [.int z1, .long ((((z2 : Int32).toInt64) <<< (Int32.toInt64 32 &&& 63)) ||| (((z3 : Int32).toInt64) &&& 4294967295))]) (rest := [.int r]) X hl.1 w okX12_years obX12 rfl lmL_90 (kX12_years hM) ⟨Nat.le_of_ble_eq_true rfl, Nat.le_of_ble_eq_true rfl⟩ ⟨rfl, rfl⟩ ⟨by show _ ≤ 601024; omega, by show _ ≤ 7293034; omega⟩ rfl rfl (Nat.le_of_ble_eq_true rfl) dL_law_726 (fun H locs hzz w => ?_)
      refine lv_icmp_eq (tgt := 1419) hx hb dL_law_729 (by decide) (fun q7 => ?_) (fun q7 => ?_)
      · exact NEXT _ _ _ _ _ _ _ _ w hRel1 (lv_sub hl [0, 1, 2, 3, 4] rfl)
      · exact absurd rfl q7
    by_cases sw15 : sw = 15
    · refine lv_tableIn (tgt := 734) hx hb dL_law_40 (by rw [sw15]; decide) (by rw [sw15]; decide) (by rw [sw15]; rfl) (by decide) ?_
      refine W.widen (k := 79 + (i + 6)) (n := 21000 + 40 * (i + 6)) (by omega) (by omega) ?_
      refine lv_aload_n hx hb dL_law_734 rfl (lv_at hl 1 rfl) ?_
      refine lv_aload_n hx hb dL_law_735 rfl (lv_at hl 0 rfl) ?_
      refine lv_iload hx hb dL_law_736 (lv_at hl 4 rfl) ?_
      refine lv_iconst (v := 1) hx hb dL_law_738 (by decide) ?_
      refine lv_iadd hx hb dL_law_739 ?_
      refine va_sld hx hb hX hbl hbA w.2.2.2.1 hin1 dL_law_740 ?_
      rw [show xs (x4 + 1 : Int32).toNatClampNeg = z1 from hz1]
      obtain ⟨r, S1, T1, hC, hM, hRel1⟩ := hsim.2.2.2.2.2.2.2.2.2.2.2.2.2.2.2.1 S T hRel (z1)
      obtain ⟨hC, ehC⟩ := hC
      subst ehC
      refine cVi (k := 0) (As := [.int z1]) (rest := []) X hl.1 w okX11_status obX11 rfl lmL_91 (kX11_status hC) ⟨Nat.le_of_ble_eq_true rfl, Nat.le_of_ble_eq_true rfl⟩ ⟨rfl, rfl⟩ ⟨by show _ ≤ 601024; omega, by show _ ≤ 7293034; omega⟩ rfl rfl (Nat.le_of_ble_eq_true rfl) dL_law_741 (fun H locs hzz w => ?_)
      refine lv_aload_n hx hb dL_law_744 rfl (lv_at hl 2 rfl) ?_
      refine lv_aload_n hx hb dL_law_745 rfl (lv_at hl 0 rfl) ?_
      refine lv_iload hx hb dL_law_746 (lv_at hl 4 rfl) ?_
      refine lv_iconst (v := 1) hx hb dL_law_748 (by decide) ?_
      refine lv_iadd hx hb dL_law_749 ?_
      refine va_sld hx hb hX hbl hbA w.2.2.2.1 hin1 dL_law_750 ?_
      rw [show xs (x4 + 1 : Int32).toNatClampNeg = z1 from hz1]
      obtain ⟨hM, ehM⟩ := hM
      subst ehM
      refine cVi (k := 52) (As := [.int z1]) (rest := [.int r]) X hl.1 w okX12_status obX12 rfl lmL_94 (kX12_status hM) ⟨Nat.le_of_ble_eq_true rfl, Nat.le_of_ble_eq_true rfl⟩ ⟨rfl, rfl⟩ ⟨by show _ ≤ 601024; omega, by show _ ≤ 7293034; omega⟩ rfl rfl (Nat.le_of_ble_eq_true rfl) dL_law_751 (fun H locs hzz w => ?_)
      refine lv_icmp_eq (tgt := 1419) hx hb dL_law_754 (by decide) (fun q7 => ?_) (fun q7 => ?_)
      · exact NEXT _ _ _ _ _ _ _ _ w hRel1 (lv_sub hl [0, 1, 2, 3, 4] rfl)
      · exact absurd rfl q7
    by_cases sw16 : sw = 16
    · refine lv_tableIn (tgt := 759) hx hb dL_law_40 (by rw [sw16]; decide) (by rw [sw16]; decide) (by rw [sw16]; rfl) (by decide) ?_
      refine W.widen (k := 79 + (i + 6)) (n := 21000 + 40 * (i + 6)) (by omega) (by omega) ?_
      refine lv_aload_n hx hb dL_law_759 rfl (lv_at hl 1 rfl) ?_
      obtain ⟨r, S1, T1, hC, hM, hRel1⟩ := hsim.2.2.2.2.2.2.2.2.2.2.2.2.2.2.2.2.1 S T hRel 
      refine cVi (k := 0) (As := []) (rest := []) X hl.1 w okX11_undo obX11 rfl lmL_95 (kX11_undo hC) ⟨Nat.le_of_ble_eq_true rfl, Nat.le_of_ble_eq_true rfl⟩ ⟨rfl, rfl⟩ ⟨by show _ ≤ 601024; omega, by show _ ≤ 7293034; omega⟩ rfl rfl (Nat.le_of_ble_eq_true rfl) dL_law_760 (fun H locs hzz w => ?_)
      refine lv_aload_n hx hb dL_law_763 rfl (lv_at hl 2 rfl) ?_
      refine cVi (k := 52) (As := []) (rest := [.int r]) X hl.1 w okX12_undo obX12 rfl lmL_98 (kX12_undo hM) ⟨Nat.le_of_ble_eq_true rfl, Nat.le_of_ble_eq_true rfl⟩ ⟨rfl, rfl⟩ ⟨by show _ ≤ 601024; omega, by show _ ≤ 7293034; omega⟩ rfl rfl (Nat.le_of_ble_eq_true rfl) dL_law_764 (fun H locs hzz w => ?_)
      refine lv_icmp_eq (tgt := 1419) hx hb dL_law_767 (by decide) (fun q7 => ?_) (fun q7 => ?_)
      · exact NEXT _ _ _ _ _ _ _ _ w hRel1 (lv_sub hl [0, 1, 2, 3, 4] rfl)
      · exact absurd rfl q7
    by_cases sw17 : sw = 17
    · refine lv_tableIn (tgt := 772) hx hb dL_law_40 (by rw [sw17]; decide) (by rw [sw17]; decide) (by rw [sw17]; rfl) (by decide) ?_
      refine W.widen (k := 79 + (i + 6)) (n := 21000 + 40 * (i + 6)) (by omega) (by omega) ?_
      refine lv_aload_n hx hb dL_law_772 rfl (lv_at hl 1 rfl) ?_
      refine lv_aload_n hx hb dL_law_773 rfl (lv_at hl 0 rfl) ?_
      refine lv_iload hx hb dL_law_774 (lv_at hl 4 rfl) ?_
      refine lv_iconst (v := 1) hx hb dL_law_776 (by decide) ?_
      refine lv_iadd hx hb dL_law_777 ?_
      refine va_sld hx hb hX hbl hbA w.2.2.2.1 hin1 dL_law_778 ?_
      rw [show xs (x4 + 1 : Int32).toNatClampNeg = z1 from hz1]
      refine lv_aload_n hx hb dL_law_779 rfl (lv_at hl 0 rfl) ?_
      refine lv_iload hx hb dL_law_780 (lv_at hl 4 rfl) ?_
      refine lv_iconst (v := 2) hx hb dL_law_782 (by decide) ?_
      refine lv_iadd hx hb dL_law_783 ?_
      refine va_sld hx hb hX hbl hbA w.2.2.2.1 hin2 dL_law_784 ?_
      rw [show xs (x4 + 2 : Int32).toNatClampNeg = z2 from hz2]
      obtain ⟨r, S1, T1, hC, hM, hRel1⟩ := hsim.2.2.2.2.2.2.2.2.2.2.2.2.2.2.2.2.2.1 S T hRel (z1) (z2)
      obtain ⟨hC, ehC⟩ := hC
      subst ehC
      refine cVi (k := 0) (As := [.int z1, .int z2]) (rest := []) X hl.1 w okX11_log obX11 rfl lmL_99 (kX11_log hC) ⟨Nat.le_of_ble_eq_true rfl, Nat.le_of_ble_eq_true rfl⟩ ⟨rfl, rfl⟩ ⟨by show _ ≤ 601024; omega, by show _ ≤ 7293034; omega⟩ rfl rfl (Nat.le_of_ble_eq_true rfl) dL_law_785 (fun H locs hzz w => ?_)
      refine lv_aload_n hx hb dL_law_788 rfl (lv_at hl 2 rfl) ?_
      refine lv_aload_n hx hb dL_law_789 rfl (lv_at hl 0 rfl) ?_
      refine lv_iload hx hb dL_law_790 (lv_at hl 4 rfl) ?_
      refine lv_iconst (v := 1) hx hb dL_law_792 (by decide) ?_
      refine lv_iadd hx hb dL_law_793 ?_
      refine va_sld hx hb hX hbl hbA w.2.2.2.1 hin1 dL_law_794 ?_
      rw [show xs (x4 + 1 : Int32).toNatClampNeg = z1 from hz1]
      refine lv_aload_n hx hb dL_law_795 rfl (lv_at hl 0 rfl) ?_
      refine lv_iload hx hb dL_law_796 (lv_at hl 4 rfl) ?_
      refine lv_iconst (v := 2) hx hb dL_law_798 (by decide) ?_
      refine lv_iadd hx hb dL_law_799 ?_
      refine va_sld hx hb hX hbl hbA w.2.2.2.1 hin2 dL_law_800 ?_
      rw [show xs (x4 + 2 : Int32).toNatClampNeg = z2 from hz2]
      obtain ⟨hM, ehM⟩ := hM
      subst ehM
      refine cVi (k := 52) (As := [.int z1, .int z2]) (rest := [.int r]) X hl.1 w okX12_log obX12 rfl lmL_102 (kX12_log hM) ⟨Nat.le_of_ble_eq_true rfl, Nat.le_of_ble_eq_true rfl⟩ ⟨rfl, rfl⟩ ⟨by show _ ≤ 601024; omega, by show _ ≤ 7293034; omega⟩ rfl rfl (Nat.le_of_ble_eq_true rfl) dL_law_801 (fun H locs hzz w => ?_)
      refine lv_icmp_eq (tgt := 1419) hx hb dL_law_804 (by decide) (fun q7 => ?_) (fun q7 => ?_)
      · exact NEXT _ _ _ _ _ _ _ _ w hRel1 (lv_sub hl [0, 1, 2, 3, 4] rfl)
      · exact absurd rfl q7
    by_cases sw18 : sw = 18
    · refine lv_tableIn (tgt := 809) hx hb dL_law_40 (by rw [sw18]; decide) (by rw [sw18]; decide) (by rw [sw18]; rfl) (by decide) ?_
      refine W.widen (k := 79 + (i + 6)) (n := 21000 + 40 * (i + 6)) (by omega) (by omega) ?_
      refine lv_aload_n hx hb dL_law_809 rfl (lv_at hl 1 rfl) ?_
      refine lv_aload_n hx hb dL_law_810 rfl (lv_at hl 0 rfl) ?_
      refine lv_iload hx hb dL_law_811 (lv_at hl 4 rfl) ?_
      refine lv_iconst (v := 1) hx hb dL_law_813 (by decide) ?_
      refine lv_iadd hx hb dL_law_814 ?_
      refine va_sld hx hb hX hbl hbA w.2.2.2.1 hin1 dL_law_815 ?_
      rw [show xs (x4 + 1 : Int32).toNatClampNeg = z1 from hz1]
      refine lv_aload_n hx hb dL_law_816 rfl (lv_at hl 0 rfl) ?_
      refine lv_iload hx hb dL_law_817 (lv_at hl 4 rfl) ?_
      refine lv_iconst (v := 2) hx hb dL_law_819 (by decide) ?_
      refine lv_iadd hx hb dL_law_820 ?_
      refine va_sld hx hb hX hbl hbA w.2.2.2.1 hin2 dL_law_821 ?_
      rw [show xs (x4 + 2 : Int32).toNatClampNeg = z2 from hz2]
      obtain ⟨r, S1, T1, hC, hM, hRel1⟩ := hsim.2.2.2.2.2.2.2.2.2.2.2.2.2.2.2.2.2.2.1 S T hRel (z1) (z2)
      refine cVi (k := 0) (As := [.int z1, .int z2]) (rest := []) X hl.1 w okX11_fits obX11 rfl lmL_103 (kX11_fits hC) ⟨Nat.le_of_ble_eq_true rfl, Nat.le_of_ble_eq_true rfl⟩ ⟨rfl, rfl⟩ ⟨by show _ ≤ 601024; omega, by show _ ≤ 7293034; omega⟩ rfl rfl (Nat.le_of_ble_eq_true rfl) dL_law_822 (fun H locs hzz w => ?_)
      refine lv_aload_n hx hb dL_law_825 rfl (lv_at hl 2 rfl) ?_
      refine lv_aload_n hx hb dL_law_826 rfl (lv_at hl 0 rfl) ?_
      refine lv_iload hx hb dL_law_827 (lv_at hl 4 rfl) ?_
      refine lv_iconst (v := 1) hx hb dL_law_829 (by decide) ?_
      refine lv_iadd hx hb dL_law_830 ?_
      refine va_sld hx hb hX hbl hbA w.2.2.2.1 hin1 dL_law_831 ?_
      rw [show xs (x4 + 1 : Int32).toNatClampNeg = z1 from hz1]
      refine lv_aload_n hx hb dL_law_832 rfl (lv_at hl 0 rfl) ?_
      refine lv_iload hx hb dL_law_833 (lv_at hl 4 rfl) ?_
      refine lv_iconst (v := 2) hx hb dL_law_835 (by decide) ?_
      refine lv_iadd hx hb dL_law_836 ?_
      refine va_sld hx hb hX hbl hbA w.2.2.2.1 hin2 dL_law_837 ?_
      rw [show xs (x4 + 2 : Int32).toNatClampNeg = z2 from hz2]
      refine cVi (k := 52) (As := [.int z1, .int z2]) (rest := [.int r]) X hl.1 w okX12_fits obX12 rfl lmL_106 (kX12_fits hM) ⟨Nat.le_of_ble_eq_true rfl, Nat.le_of_ble_eq_true rfl⟩ ⟨rfl, rfl⟩ ⟨by show _ ≤ 601024; omega, by show _ ≤ 7293034; omega⟩ rfl rfl (Nat.le_of_ble_eq_true rfl) dL_law_838 (fun H locs hzz w => ?_)
      refine lv_icmp_eq (tgt := 1419) hx hb dL_law_841 (by decide) (fun q7 => ?_) (fun q7 => ?_)
      · exact NEXT _ _ _ _ _ _ _ _ w hRel1 (lv_sub hl [0, 1, 2, 3, 4] rfl)
      · exact absurd rfl q7
    by_cases sw19 : sw = 19
    · refine lv_tableIn (tgt := 846) hx hb dL_law_40 (by rw [sw19]; decide) (by rw [sw19]; decide) (by rw [sw19]; rfl) (by decide) ?_
      refine W.widen (k := 79 + (i + 6)) (n := 21000 + 40 * (i + 6)) (by omega) (by omega) ?_
      refine lv_aload_n hx hb dL_law_846 rfl (lv_at hl 1 rfl) ?_
      refine lv_aload_n hx hb dL_law_847 rfl (lv_at hl 0 rfl) ?_
      refine lv_iload hx hb dL_law_848 (lv_at hl 4 rfl) ?_
      refine lv_iconst (v := 1) hx hb dL_law_850 (by decide) ?_
      refine lv_iadd hx hb dL_law_851 ?_
      refine va_sld hx hb hX hbl hbA w.2.2.2.1 hin1 dL_law_852 ?_
      rw [show xs (x4 + 1 : Int32).toNatClampNeg = z1 from hz1]
      obtain ⟨r, S1, T1, hC, hM, hRel1⟩ := hsim.2.2.2.2.2.2.2.2.2.2.2.2.2.2.2.2.2.2.2.1 S T hRel (z1)
      refine cVi (k := 0) (As := [.int z1]) (rest := []) X hl.1 w okX11_could obX11 rfl lmL_107 (kX11_could hC) ⟨Nat.le_of_ble_eq_true rfl, Nat.le_of_ble_eq_true rfl⟩ ⟨rfl, rfl⟩ ⟨by show _ ≤ 601024; omega, by show _ ≤ 7293034; omega⟩ rfl rfl (Nat.le_of_ble_eq_true rfl) dL_law_853 (fun H locs hzz w => ?_)
      refine lv_aload_n hx hb dL_law_856 rfl (lv_at hl 2 rfl) ?_
      refine lv_aload_n hx hb dL_law_857 rfl (lv_at hl 0 rfl) ?_
      refine lv_iload hx hb dL_law_858 (lv_at hl 4 rfl) ?_
      refine lv_iconst (v := 1) hx hb dL_law_860 (by decide) ?_
      refine lv_iadd hx hb dL_law_861 ?_
      refine va_sld hx hb hX hbl hbA w.2.2.2.1 hin1 dL_law_862 ?_
      rw [show xs (x4 + 1 : Int32).toNatClampNeg = z1 from hz1]
      refine cVi (k := 52) (As := [.int z1]) (rest := [.int r]) X hl.1 w okX12_could obX12 rfl lmL_110 (kX12_could hM) ⟨Nat.le_of_ble_eq_true rfl, Nat.le_of_ble_eq_true rfl⟩ ⟨rfl, rfl⟩ ⟨by show _ ≤ 601024; omega, by show _ ≤ 7293034; omega⟩ rfl rfl (Nat.le_of_ble_eq_true rfl) dL_law_863 (fun H locs hzz w => ?_)
      refine lv_icmp_eq (tgt := 1419) hx hb dL_law_866 (by decide) (fun q7 => ?_) (fun q7 => ?_)
      · exact NEXT _ _ _ _ _ _ _ _ w hRel1 (lv_sub hl [0, 1, 2, 3, 4] rfl)
      · exact absurd rfl q7
    by_cases sw20 : sw = 20
    · refine lv_tableIn (tgt := 871) hx hb dL_law_40 (by rw [sw20]; decide) (by rw [sw20]; decide) (by rw [sw20]; rfl) (by decide) ?_
      refine W.widen (k := 79 + (i + 6)) (n := 21000 + 40 * (i + 6)) (by omega) (by omega) ?_
      refine lv_aload_n hx hb dL_law_871 rfl (lv_at hl 1 rfl) ?_
      refine lv_aload_n hx hb dL_law_872 rfl (lv_at hl 0 rfl) ?_
      refine lv_iload hx hb dL_law_873 (lv_at hl 4 rfl) ?_
      refine lv_iconst (v := 1) hx hb dL_law_875 (by decide) ?_
      refine lv_iadd hx hb dL_law_876 ?_
      refine va_sld hx hb hX hbl hbA w.2.2.2.1 hin1 dL_law_877 ?_
      rw [show xs (x4 + 1 : Int32).toNatClampNeg = z1 from hz1]
      obtain ⟨r, S1, T1, hC, hM, hRel1⟩ := hsim.2.2.2.2.2.2.2.2.2.2.2.2.2.2.2.2.2.2.2.2.1 S T hRel (z1)
      refine cVi (k := 0) (As := [.int z1]) (rest := []) X hl.1 w okX11_knots obX11 rfl lmL_111 (kX11_knots hC) ⟨Nat.le_of_ble_eq_true rfl, Nat.le_of_ble_eq_true rfl⟩ ⟨rfl, rfl⟩ ⟨by show _ ≤ 601024; omega, by show _ ≤ 7293034; omega⟩ rfl rfl (Nat.le_of_ble_eq_true rfl) dL_law_878 (fun H locs hzz w => ?_)
      refine lv_aload_n hx hb dL_law_881 rfl (lv_at hl 2 rfl) ?_
      refine lv_aload_n hx hb dL_law_882 rfl (lv_at hl 0 rfl) ?_
      refine lv_iload hx hb dL_law_883 (lv_at hl 4 rfl) ?_
      refine lv_iconst (v := 1) hx hb dL_law_885 (by decide) ?_
      refine lv_iadd hx hb dL_law_886 ?_
      refine va_sld hx hb hX hbl hbA w.2.2.2.1 hin1 dL_law_887 ?_
      rw [show xs (x4 + 1 : Int32).toNatClampNeg = z1 from hz1]
      refine cVi (k := 52) (As := [.int z1]) (rest := [.int r]) X hl.1 w okX12_knots obX12 rfl lmL_114 (kX12_knots hM) ⟨Nat.le_of_ble_eq_true rfl, Nat.le_of_ble_eq_true rfl⟩ ⟨rfl, rfl⟩ ⟨by show _ ≤ 601024; omega, by show _ ≤ 7293034; omega⟩ rfl rfl (Nat.le_of_ble_eq_true rfl) dL_law_888 (fun H locs hzz w => ?_)
      refine lv_icmp_eq (tgt := 1419) hx hb dL_law_891 (by decide) (fun q7 => ?_) (fun q7 => ?_)
      · exact NEXT _ _ _ _ _ _ _ _ w hRel1 (lv_sub hl [0, 1, 2, 3, 4] rfl)
      · exact absurd rfl q7
    by_cases sw21 : sw = 21
    · refine lv_tableIn (tgt := 896) hx hb dL_law_40 (by rw [sw21]; decide) (by rw [sw21]; decide) (by rw [sw21]; rfl) (by decide) ?_
      refine W.widen (k := 79 + (i + 6)) (n := 21000 + 40 * (i + 6)) (by omega) (by omega) ?_
      refine lv_aload_n hx hb dL_law_896 rfl (lv_at hl 1 rfl) ?_
      refine lv_aload_n hx hb dL_law_897 rfl (lv_at hl 0 rfl) ?_
      refine lv_iload hx hb dL_law_898 (lv_at hl 4 rfl) ?_
      refine lv_iconst (v := 1) hx hb dL_law_900 (by decide) ?_
      refine lv_iadd hx hb dL_law_901 ?_
      refine va_sld hx hb hX hbl hbA w.2.2.2.1 hin1 dL_law_902 ?_
      rw [show xs (x4 + 1 : Int32).toNatClampNeg = z1 from hz1]
      obtain ⟨r, S1, T1, hC, hM, hRel1⟩ := hsim.2.2.2.2.2.2.2.2.2.2.2.2.2.2.2.2.2.2.2.2.2.1 S T hRel (z1)
      refine cVi (k := 0) (As := [.int z1]) (rest := []) X hl.1 w okX11_tale obX11 rfl lmL_115 (kX11_tale hC) ⟨Nat.le_of_ble_eq_true rfl, Nat.le_of_ble_eq_true rfl⟩ ⟨rfl, rfl⟩ ⟨by show _ ≤ 601024; omega, by show _ ≤ 7293034; omega⟩ rfl rfl (Nat.le_of_ble_eq_true rfl) dL_law_903 (fun H locs hzz w => ?_)
      refine lv_aload_n hx hb dL_law_906 rfl (lv_at hl 2 rfl) ?_
      refine lv_aload_n hx hb dL_law_907 rfl (lv_at hl 0 rfl) ?_
      refine lv_iload hx hb dL_law_908 (lv_at hl 4 rfl) ?_
      refine lv_iconst (v := 1) hx hb dL_law_910 (by decide) ?_
      refine lv_iadd hx hb dL_law_911 ?_
      refine va_sld hx hb hX hbl hbA w.2.2.2.1 hin1 dL_law_912 ?_
      rw [show xs (x4 + 1 : Int32).toNatClampNeg = z1 from hz1]
      refine cVi (k := 52) (As := [.int z1]) (rest := [.int r]) X hl.1 w okX12_tale obX12 rfl lmL_118 (kX12_tale hM) ⟨Nat.le_of_ble_eq_true rfl, Nat.le_of_ble_eq_true rfl⟩ ⟨rfl, rfl⟩ ⟨by show _ ≤ 601024; omega, by show _ ≤ 7293034; omega⟩ rfl rfl (Nat.le_of_ble_eq_true rfl) dL_law_913 (fun H locs hzz w => ?_)
      refine lv_icmp_eq (tgt := 1419) hx hb dL_law_916 (by decide) (fun q7 => ?_) (fun q7 => ?_)
      · exact NEXT _ _ _ _ _ _ _ _ w hRel1 (lv_sub hl [0, 1, 2, 3, 4] rfl)
      · exact absurd rfl q7
    by_cases sw22 : sw = 22
    · refine lv_tableIn (tgt := 921) hx hb dL_law_40 (by rw [sw22]; decide) (by rw [sw22]; decide) (by rw [sw22]; rfl) (by decide) ?_
      refine W.widen (k := 79 + (i + 6)) (n := 21000 + 40 * (i + 6)) (by omega) (by omega) ?_
      refine lv_aload_n hx hb dL_law_921 rfl (lv_at hl 1 rfl) ?_
      refine lv_aload_n hx hb dL_law_922 rfl (lv_at hl 0 rfl) ?_
      refine lv_iload hx hb dL_law_923 (lv_at hl 4 rfl) ?_
      refine lv_iconst (v := 1) hx hb dL_law_925 (by decide) ?_
      refine lv_iadd hx hb dL_law_926 ?_
      refine va_sld hx hb hX hbl hbA w.2.2.2.1 hin1 dL_law_927 ?_
      rw [show xs (x4 + 1 : Int32).toNatClampNeg = z1 from hz1]
      refine lv_aload_n hx hb dL_law_928 rfl (lv_at hl 0 rfl) ?_
      refine lv_iload hx hb dL_law_929 (lv_at hl 4 rfl) ?_
      refine lv_iconst (v := 2) hx hb dL_law_931 (by decide) ?_
      refine lv_iadd hx hb dL_law_932 ?_
      refine va_sld hx hb hX hbl hbA w.2.2.2.1 hin2 dL_law_933 ?_
      rw [show xs (x4 + 2 : Int32).toNatClampNeg = z2 from hz2]
      obtain ⟨r, S1, T1, hC, hM, hRel1⟩ := hsim.2.2.2.2.2.2.2.2.2.2.2.2.2.2.2.2.2.2.2.2.2.2.1 S T hRel (z1) (z2)
      refine cVi (k := 0) (As := [.int z1, .int z2]) (rest := []) X hl.1 w okX11_plan obX11 rfl lmL_119 (kX11_plan hC) ⟨Nat.le_of_ble_eq_true rfl, Nat.le_of_ble_eq_true rfl⟩ ⟨rfl, rfl⟩ ⟨by show _ ≤ 601024; omega, by show _ ≤ 7293034; omega⟩ rfl rfl (Nat.le_of_ble_eq_true rfl) dL_law_934 (fun H locs hzz w => ?_)
      refine lv_aload_n hx hb dL_law_937 rfl (lv_at hl 2 rfl) ?_
      refine lv_aload_n hx hb dL_law_938 rfl (lv_at hl 0 rfl) ?_
      refine lv_iload hx hb dL_law_939 (lv_at hl 4 rfl) ?_
      refine lv_iconst (v := 1) hx hb dL_law_941 (by decide) ?_
      refine lv_iadd hx hb dL_law_942 ?_
      refine va_sld hx hb hX hbl hbA w.2.2.2.1 hin1 dL_law_943 ?_
      rw [show xs (x4 + 1 : Int32).toNatClampNeg = z1 from hz1]
      refine lv_aload_n hx hb dL_law_944 rfl (lv_at hl 0 rfl) ?_
      refine lv_iload hx hb dL_law_945 (lv_at hl 4 rfl) ?_
      refine lv_iconst (v := 2) hx hb dL_law_947 (by decide) ?_
      refine lv_iadd hx hb dL_law_948 ?_
      refine va_sld hx hb hX hbl hbA w.2.2.2.1 hin2 dL_law_949 ?_
      rw [show xs (x4 + 2 : Int32).toNatClampNeg = z2 from hz2]
      refine cVi (k := 52) (As := [.int z1, .int z2]) (rest := [.int r]) X hl.1 w okX12_plan obX12 rfl lmL_122 (kX12_plan hM) ⟨Nat.le_of_ble_eq_true rfl, Nat.le_of_ble_eq_true rfl⟩ ⟨rfl, rfl⟩ ⟨by show _ ≤ 601024; omega, by show _ ≤ 7293034; omega⟩ rfl rfl (Nat.le_of_ble_eq_true rfl) dL_law_950 (fun H locs hzz w => ?_)
      refine lv_icmp_eq (tgt := 1419) hx hb dL_law_953 (by decide) (fun q7 => ?_) (fun q7 => ?_)
      · exact NEXT _ _ _ _ _ _ _ _ w hRel1 (lv_sub hl [0, 1, 2, 3, 4] rfl)
      · exact absurd rfl q7
    by_cases sw23 : sw = 23
    · refine lv_tableIn (tgt := 958) hx hb dL_law_40 (by rw [sw23]; decide) (by rw [sw23]; decide) (by rw [sw23]; rfl) (by decide) ?_
      refine W.widen (k := 79 + (i + 6)) (n := 21000 + 40 * (i + 6)) (by omega) (by omega) ?_
      refine lv_aload_n hx hb dL_law_958 rfl (lv_at hl 1 rfl) ?_
      refine lv_aload_n hx hb dL_law_959 rfl (lv_at hl 0 rfl) ?_
      refine lv_iload hx hb dL_law_960 (lv_at hl 4 rfl) ?_
      refine lv_iconst (v := 1) hx hb dL_law_962 (by decide) ?_
      refine lv_iadd hx hb dL_law_963 ?_
      refine va_sld hx hb hX hbl hbA w.2.2.2.1 hin1 dL_law_964 ?_
      rw [show xs (x4 + 1 : Int32).toNatClampNeg = z1 from hz1]
      obtain ⟨r, S1, T1, hC, hM, hRel1⟩ := hsim.2.2.2.2.2.2.2.2.2.2.2.2.2.2.2.2.2.2.2.2.2.2.2.1 S T hRel (z1)
      refine cVi (k := 0) (As := [.int z1]) (rest := []) X hl.1 w okX11_blankets obX11 rfl lmL_123 (kX11_blankets hC) ⟨Nat.le_of_ble_eq_true rfl, Nat.le_of_ble_eq_true rfl⟩ ⟨rfl, rfl⟩ ⟨by show _ ≤ 601024; omega, by show _ ≤ 7293034; omega⟩ rfl rfl (Nat.le_of_ble_eq_true rfl) dL_law_965 (fun H locs hzz w => ?_)
      refine lv_aload_n hx hb dL_law_968 rfl (lv_at hl 2 rfl) ?_
      refine lv_aload_n hx hb dL_law_969 rfl (lv_at hl 0 rfl) ?_
      refine lv_iload hx hb dL_law_970 (lv_at hl 4 rfl) ?_
      refine lv_iconst (v := 1) hx hb dL_law_972 (by decide) ?_
      refine lv_iadd hx hb dL_law_973 ?_
      refine va_sld hx hb hX hbl hbA w.2.2.2.1 hin1 dL_law_974 ?_
      rw [show xs (x4 + 1 : Int32).toNatClampNeg = z1 from hz1]
      refine cVi (k := 52) (As := [.int z1]) (rest := [.int r]) X hl.1 w okX12_blankets obX12 rfl lmL_126 (kX12_blankets hM) ⟨Nat.le_of_ble_eq_true rfl, Nat.le_of_ble_eq_true rfl⟩ ⟨rfl, rfl⟩ ⟨by show _ ≤ 601024; omega, by show _ ≤ 7293034; omega⟩ rfl rfl (Nat.le_of_ble_eq_true rfl) dL_law_975 (fun H locs hzz w => ?_)
      refine lv_icmp_eq (tgt := 1419) hx hb dL_law_978 (by decide) (fun q7 => ?_) (fun q7 => ?_)
      · exact NEXT _ _ _ _ _ _ _ _ w hRel1 (lv_sub hl [0, 1, 2, 3, 4] rfl)
      · exact absurd rfl q7
    by_cases sw24 : sw = 24
    · refine lv_tableIn (tgt := 983) hx hb dL_law_40 (by rw [sw24]; decide) (by rw [sw24]; decide) (by rw [sw24]; rfl) (by decide) ?_
      refine W.widen (k := 79 + (i + 6)) (n := 21000 + 40 * (i + 6)) (by omega) (by omega) ?_
      refine lv_aload_n hx hb dL_law_983 rfl (lv_at hl 1 rfl) ?_
      refine lv_aload_n hx hb dL_law_984 rfl (lv_at hl 0 rfl) ?_
      refine lv_iload hx hb dL_law_985 (lv_at hl 4 rfl) ?_
      refine lv_iconst (v := 1) hx hb dL_law_987 (by decide) ?_
      refine lv_iadd hx hb dL_law_988 ?_
      refine va_sld hx hb hX hbl hbA w.2.2.2.1 hin1 dL_law_989 ?_
      rw [show xs (x4 + 1 : Int32).toNatClampNeg = z1 from hz1]
      refine lv_aload_n hx hb dL_law_990 rfl (lv_at hl 0 rfl) ?_
      refine lv_iload hx hb dL_law_991 (lv_at hl 4 rfl) ?_
      refine lv_iconst (v := 2) hx hb dL_law_993 (by decide) ?_
      refine lv_iadd hx hb dL_law_994 ?_
      refine va_sld hx hb hX hbl hbA w.2.2.2.1 hin2 dL_law_995 ?_
      rw [show xs (x4 + 2 : Int32).toNatClampNeg = z2 from hz2]
      refine lv_aload_n hx hb dL_law_996 rfl (lv_at hl 0 rfl) ?_
      refine lv_iload hx hb dL_law_997 (lv_at hl 4 rfl) ?_
      refine lv_iconst (v := 3) hx hb dL_law_999 (by decide) ?_
      refine lv_iadd hx hb dL_law_1000 ?_
      refine va_sld hx hb hX hbl hbA w.2.2.2.1 hin3 dL_law_1001 ?_
      rw [show xs (x4 + 3 : Int32).toNatClampNeg = z3 from hz3]
      refine lv_if_eq (tgt := 1009) hx hb dL_law_1002 (by decide) (fun c3 => ?_) (fun c3 => ?_)
      · obtain ⟨r, S1, T1, hC, hM, hRel1⟩ := hsim.2.2.2.2.2.2.2.2.2.2.2.2.2.2.2.2.2.2.2.2.2.2.2.2.1 S T hRel z1 z2 0 rfl
        refine lv_iconst (v := 0) hx hb dL_law_1009 (by decide) ?_
        refine cVi (k := 0) (As := [.int z1, .int z2, .int 0]) (rest := []) X hl.1 w okX11_seen obX11 rfl lmL_127 (kX11_seen hC) ⟨Nat.le_of_ble_eq_true rfl, Nat.le_of_ble_eq_true rfl⟩ ⟨rfl, rfl⟩ ⟨by show _ ≤ 601024; omega, by show _ ≤ 7293034; omega⟩ rfl rfl (Nat.le_of_ble_eq_true rfl) dL_law_1010 (fun H locs hzz w => ?_)
        refine lv_aload_n hx hb dL_law_1013 rfl (lv_at hl 2 rfl) ?_
        refine lv_aload_n hx hb dL_law_1014 rfl (lv_at hl 0 rfl) ?_
        refine lv_iload hx hb dL_law_1015 (lv_at hl 4 rfl) ?_
        refine lv_iconst (v := 1) hx hb dL_law_1017 (by decide) ?_
        refine lv_iadd hx hb dL_law_1018 ?_
        refine va_sld hx hb hX hbl hbA w.2.2.2.1 hin1 dL_law_1019 ?_
        rw [show xs (x4 + 1 : Int32).toNatClampNeg = z1 from hz1]
        refine lv_aload_n hx hb dL_law_1020 rfl (lv_at hl 0 rfl) ?_
        refine lv_iload hx hb dL_law_1021 (lv_at hl 4 rfl) ?_
        refine lv_iconst (v := 2) hx hb dL_law_1023 (by decide) ?_
        refine lv_iadd hx hb dL_law_1024 ?_
        refine va_sld hx hb hX hbl hbA w.2.2.2.1 hin2 dL_law_1025 ?_
        rw [show xs (x4 + 2 : Int32).toNatClampNeg = z2 from hz2]
        refine lv_aload_n hx hb dL_law_1026 rfl (lv_at hl 0 rfl) ?_
        refine lv_iload hx hb dL_law_1027 (lv_at hl 4 rfl) ?_
        refine lv_iconst (v := 3) hx hb dL_law_1029 (by decide) ?_
        refine lv_iadd hx hb dL_law_1030 ?_
        refine va_sld hx hb hX hbl hbA w.2.2.2.1 hin3 dL_law_1031 ?_
        rw [show xs (x4 + 3 : Int32).toNatClampNeg = z3 from hz3]
        refine lv_if_eq (tgt := 1039) hx hb dL_law_1032 (by decide) (fun q3 => ?_) (fun q3 => ?_)
        · refine lv_iconst (v := 0) hx hb dL_law_1039 (by decide) ?_
          refine cVi (k := 52) (As := [.int z1, .int z2, .int 0]) (rest := [.int r]) X hl.1 w okX12_seen obX12 rfl lmL_131 (kX12_seen hM) ⟨Nat.le_of_ble_eq_true rfl, Nat.le_of_ble_eq_true rfl⟩ ⟨rfl, rfl⟩ ⟨by show _ ≤ 601024; omega, by show _ ≤ 7293034; omega⟩ rfl rfl (Nat.le_of_ble_eq_true rfl) dL_law_1040 (fun H locs hzz w => ?_)
          refine lv_icmp_eq (tgt := 1419) hx hb dL_law_1043 (by decide) (fun q7 => ?_) (fun q7 => ?_)
          · exact NEXT _ _ _ _ _ _ _ _ w hRel1 (lv_sub hl [0, 1, 2, 3, 4] rfl)
          · exact absurd rfl q7
        · contradiction
      · obtain ⟨r, S1, T1, hC, hM, hRel1⟩ := hsim.2.2.2.2.2.2.2.2.2.2.2.2.2.2.2.2.2.2.2.2.2.2.2.2.1 S T hRel z1 z2 1 rfl
        refine lv_iconst (v := 1) hx hb dL_law_1005 (by decide) ?_
        refine lv_goto (tgt := 1010) hx hb dL_law_1006 (by decide) ?_
        refine cVi (k := 0) (As := [.int z1, .int z2, .int 1]) (rest := []) X hl.1 w okX11_seen obX11 rfl lmL_127 (kX11_seen hC) ⟨Nat.le_of_ble_eq_true rfl, Nat.le_of_ble_eq_true rfl⟩ ⟨rfl, rfl⟩ ⟨by show _ ≤ 601024; omega, by show _ ≤ 7293034; omega⟩ rfl rfl (Nat.le_of_ble_eq_true rfl) dL_law_1010 (fun H locs hzz w => ?_)
        refine lv_aload_n hx hb dL_law_1013 rfl (lv_at hl 2 rfl) ?_
        refine lv_aload_n hx hb dL_law_1014 rfl (lv_at hl 0 rfl) ?_
        refine lv_iload hx hb dL_law_1015 (lv_at hl 4 rfl) ?_
        refine lv_iconst (v := 1) hx hb dL_law_1017 (by decide) ?_
        refine lv_iadd hx hb dL_law_1018 ?_
        refine va_sld hx hb hX hbl hbA w.2.2.2.1 hin1 dL_law_1019 ?_
        rw [show xs (x4 + 1 : Int32).toNatClampNeg = z1 from hz1]
        refine lv_aload_n hx hb dL_law_1020 rfl (lv_at hl 0 rfl) ?_
        refine lv_iload hx hb dL_law_1021 (lv_at hl 4 rfl) ?_
        refine lv_iconst (v := 2) hx hb dL_law_1023 (by decide) ?_
        refine lv_iadd hx hb dL_law_1024 ?_
        refine va_sld hx hb hX hbl hbA w.2.2.2.1 hin2 dL_law_1025 ?_
        rw [show xs (x4 + 2 : Int32).toNatClampNeg = z2 from hz2]
        refine lv_aload_n hx hb dL_law_1026 rfl (lv_at hl 0 rfl) ?_
        refine lv_iload hx hb dL_law_1027 (lv_at hl 4 rfl) ?_
        refine lv_iconst (v := 3) hx hb dL_law_1029 (by decide) ?_
        refine lv_iadd hx hb dL_law_1030 ?_
        refine va_sld hx hb hX hbl hbA w.2.2.2.1 hin3 dL_law_1031 ?_
        rw [show xs (x4 + 3 : Int32).toNatClampNeg = z3 from hz3]
        refine lv_if_eq (tgt := 1039) hx hb dL_law_1032 (by decide) (fun q3 => ?_) (fun q3 => ?_)
        · contradiction
        · refine lv_iconst (v := 1) hx hb dL_law_1035 (by decide) ?_
          refine lv_goto (tgt := 1040) hx hb dL_law_1036 (by decide) ?_
          refine cVi (k := 52) (As := [.int z1, .int z2, .int 1]) (rest := [.int r]) X hl.1 w okX12_seen obX12 rfl lmL_131 (kX12_seen hM) ⟨Nat.le_of_ble_eq_true rfl, Nat.le_of_ble_eq_true rfl⟩ ⟨rfl, rfl⟩ ⟨by show _ ≤ 601024; omega, by show _ ≤ 7293034; omega⟩ rfl rfl (Nat.le_of_ble_eq_true rfl) dL_law_1040 (fun H locs hzz w => ?_)
          refine lv_icmp_eq (tgt := 1419) hx hb dL_law_1043 (by decide) (fun q7 => ?_) (fun q7 => ?_)
          · exact NEXT _ _ _ _ _ _ _ _ w hRel1 (lv_sub hl [0, 1, 2, 3, 4] rfl)
          · exact absurd rfl q7
    by_cases sw25 : sw = 25
    · refine lv_tableIn (tgt := 1048) hx hb dL_law_40 (by rw [sw25]; decide) (by rw [sw25]; decide) (by rw [sw25]; rfl) (by decide) ?_
      refine W.widen (k := 79 + (i + 6)) (n := 21000 + 40 * (i + 6)) (by omega) (by omega) ?_
      refine lv_aload_n hx hb dL_law_1048 rfl (lv_at hl 1 rfl) ?_
      refine lv_aload_n hx hb dL_law_1049 rfl (lv_at hl 0 rfl) ?_
      refine lv_iload hx hb dL_law_1050 (lv_at hl 4 rfl) ?_
      refine lv_iconst (v := 1) hx hb dL_law_1052 (by decide) ?_
      refine lv_iadd hx hb dL_law_1053 ?_
      refine va_sld hx hb hX hbl hbA w.2.2.2.1 hin1 dL_law_1054 ?_
      rw [show xs (x4 + 1 : Int32).toNatClampNeg = z1 from hz1]
      refine lv_aload_n hx hb dL_law_1055 rfl (lv_at hl 0 rfl) ?_
      refine lv_iload hx hb dL_law_1056 (lv_at hl 4 rfl) ?_
      refine lv_iconst (v := 2) hx hb dL_law_1058 (by decide) ?_
      refine lv_iadd hx hb dL_law_1059 ?_
      refine va_sld hx hb hX hbl hbA w.2.2.2.1 hin2 dL_law_1060 ?_
      rw [show xs (x4 + 2 : Int32).toNatClampNeg = z2 from hz2]
      obtain ⟨r, S1, T1, hC, hM, hRel1⟩ := hsim.2.2.2.2.2.2.2.2.2.2.2.2.2.2.2.2.2.2.2.2.2.2.2.2.2.1 S T hRel (z1) (z2)
      refine cVi (k := 0) (As := [.int z1, .int z2]) (rest := []) X hl.1 w okX11_plies obX11 rfl lmL_132 (kX11_plies hC) ⟨Nat.le_of_ble_eq_true rfl, Nat.le_of_ble_eq_true rfl⟩ ⟨rfl, rfl⟩ ⟨by show _ ≤ 601024; omega, by show _ ≤ 7293034; omega⟩ rfl rfl (Nat.le_of_ble_eq_true rfl) dL_law_1061 (fun H locs hzz w => ?_)
      refine lv_aload_n hx hb dL_law_1064 rfl (lv_at hl 2 rfl) ?_
      refine lv_aload_n hx hb dL_law_1065 rfl (lv_at hl 0 rfl) ?_
      refine lv_iload hx hb dL_law_1066 (lv_at hl 4 rfl) ?_
      refine lv_iconst (v := 1) hx hb dL_law_1068 (by decide) ?_
      refine lv_iadd hx hb dL_law_1069 ?_
      refine va_sld hx hb hX hbl hbA w.2.2.2.1 hin1 dL_law_1070 ?_
      rw [show xs (x4 + 1 : Int32).toNatClampNeg = z1 from hz1]
      refine lv_aload_n hx hb dL_law_1071 rfl (lv_at hl 0 rfl) ?_
      refine lv_iload hx hb dL_law_1072 (lv_at hl 4 rfl) ?_
      refine lv_iconst (v := 2) hx hb dL_law_1074 (by decide) ?_
      refine lv_iadd hx hb dL_law_1075 ?_
      refine va_sld hx hb hX hbl hbA w.2.2.2.1 hin2 dL_law_1076 ?_
      rw [show xs (x4 + 2 : Int32).toNatClampNeg = z2 from hz2]
      refine cVi (k := 52) (As := [.int z1, .int z2]) (rest := [.int r]) X hl.1 w okX12_plies obX12 rfl lmL_135 (kX12_plies hM) ⟨Nat.le_of_ble_eq_true rfl, Nat.le_of_ble_eq_true rfl⟩ ⟨rfl, rfl⟩ ⟨by show _ ≤ 601024; omega, by show _ ≤ 7293034; omega⟩ rfl rfl (Nat.le_of_ble_eq_true rfl) dL_law_1077 (fun H locs hzz w => ?_)
      refine lv_icmp_eq (tgt := 1419) hx hb dL_law_1080 (by decide) (fun q7 => ?_) (fun q7 => ?_)
      · exact NEXT _ _ _ _ _ _ _ _ w hRel1 (lv_sub hl [0, 1, 2, 3, 4] rfl)
      · exact absurd rfl q7
    by_cases sw26 : sw = 26
    · refine lv_tableIn (tgt := 1085) hx hb dL_law_40 (by rw [sw26]; decide) (by rw [sw26]; decide) (by rw [sw26]; rfl) (by decide) ?_
      refine W.widen (k := 79 + (i + 6)) (n := 21000 + 40 * (i + 6)) (by omega) (by omega) ?_
      refine lv_aload_n hx hb dL_law_1085 rfl (lv_at hl 1 rfl) ?_
      refine lv_aload_n hx hb dL_law_1086 rfl (lv_at hl 0 rfl) ?_
      refine lv_iload hx hb dL_law_1087 (lv_at hl 4 rfl) ?_
      refine lv_iconst (v := 1) hx hb dL_law_1089 (by decide) ?_
      refine lv_iadd hx hb dL_law_1090 ?_
      refine va_sld hx hb hX hbl hbA w.2.2.2.1 hin1 dL_law_1091 ?_
      rw [show xs (x4 + 1 : Int32).toNatClampNeg = z1 from hz1]
      obtain ⟨r, S1, T1, hC, hM, hRel1⟩ := hsim.2.2.2.2.2.2.2.2.2.2.2.2.2.2.2.2.2.2.2.2.2.2.2.2.2.2.1 S T hRel (z1)
      refine cVi (k := 0) (As := [.int z1]) (rest := []) X hl.1 w okX11_ask obX11 rfl lmL_136 (kX11_ask hC) ⟨Nat.le_of_ble_eq_true rfl, Nat.le_of_ble_eq_true rfl⟩ ⟨rfl, rfl⟩ ⟨by show _ ≤ 601024; omega, by show _ ≤ 7293034; omega⟩ rfl rfl (Nat.le_of_ble_eq_true rfl) dL_law_1092 (fun H locs hzz w => ?_)
      refine lv_aload_n hx hb dL_law_1095 rfl (lv_at hl 2 rfl) ?_
      refine lv_aload_n hx hb dL_law_1096 rfl (lv_at hl 0 rfl) ?_
      refine lv_iload hx hb dL_law_1097 (lv_at hl 4 rfl) ?_
      refine lv_iconst (v := 1) hx hb dL_law_1099 (by decide) ?_
      refine lv_iadd hx hb dL_law_1100 ?_
      refine va_sld hx hb hX hbl hbA w.2.2.2.1 hin1 dL_law_1101 ?_
      rw [show xs (x4 + 1 : Int32).toNatClampNeg = z1 from hz1]
      refine cVi (k := 52) (As := [.int z1]) (rest := [.int r]) X hl.1 w okX12_ask obX12 rfl lmL_139 (kX12_ask hM) ⟨Nat.le_of_ble_eq_true rfl, Nat.le_of_ble_eq_true rfl⟩ ⟨rfl, rfl⟩ ⟨by show _ ≤ 601024; omega, by show _ ≤ 7293034; omega⟩ rfl rfl (Nat.le_of_ble_eq_true rfl) dL_law_1102 (fun H locs hzz w => ?_)
      refine lv_icmp_eq (tgt := 1419) hx hb dL_law_1105 (by decide) (fun q7 => ?_) (fun q7 => ?_)
      · exact NEXT _ _ _ _ _ _ _ _ w hRel1 (lv_sub hl [0, 1, 2, 3, 4] rfl)
      · exact absurd rfl q7
    by_cases sw27 : sw = 27
    · refine lv_tableIn (tgt := 1110) hx hb dL_law_40 (by rw [sw27]; decide) (by rw [sw27]; decide) (by rw [sw27]; rfl) (by decide) ?_
      refine W.widen (k := 79 + (i + 6)) (n := 21000 + 40 * (i + 6)) (by omega) (by omega) ?_
      refine lv_aload_n hx hb dL_law_1110 rfl (lv_at hl 1 rfl) ?_
      refine lv_aload_n hx hb dL_law_1111 rfl (lv_at hl 0 rfl) ?_
      refine lv_iload hx hb dL_law_1112 (lv_at hl 4 rfl) ?_
      refine lv_iconst (v := 1) hx hb dL_law_1114 (by decide) ?_
      refine lv_iadd hx hb dL_law_1115 ?_
      refine va_sld hx hb hX hbl hbA w.2.2.2.1 hin1 dL_law_1116 ?_
      rw [show xs (x4 + 1 : Int32).toNatClampNeg = z1 from hz1]
      refine lv_aload_n hx hb dL_law_1117 rfl (lv_at hl 0 rfl) ?_
      refine lv_iload hx hb dL_law_1118 (lv_at hl 4 rfl) ?_
      refine lv_iconst (v := 2) hx hb dL_law_1120 (by decide) ?_
      refine lv_iadd hx hb dL_law_1121 ?_
      refine va_sld hx hb hX hbl hbA w.2.2.2.1 hin2 dL_law_1122 ?_
      rw [show xs (x4 + 2 : Int32).toNatClampNeg = z2 from hz2]
      refine lv_aload_n hx hb dL_law_1123 rfl (lv_at hl 0 rfl) ?_
      refine lv_iload hx hb dL_law_1124 (lv_at hl 4 rfl) ?_
      refine lv_iconst (v := 3) hx hb dL_law_1126 (by decide) ?_
      refine lv_iadd hx hb dL_law_1127 ?_
      refine va_sld hx hb hX hbl hbA w.2.2.2.1 hin3 dL_law_1128 ?_
      rw [show xs (x4 + 3 : Int32).toNatClampNeg = z3 from hz3]
      refine lv_aload_n hx hb dL_law_1129 rfl (lv_at hl 0 rfl) ?_
      refine lv_iload hx hb dL_law_1130 (lv_at hl 4 rfl) ?_
      refine lv_iconst (v := 4) hx hb dL_law_1132 (by decide) ?_
      refine lv_iadd hx hb dL_law_1133 ?_
      refine va_sld hx hb hX hbl hbA w.2.2.2.1 hin4 dL_law_1134 ?_
      rw [show xs (x4 + 4 : Int32).toNatClampNeg = z4 from hz4]
      refine lv_aload_n hx hb dL_law_1135 rfl (lv_at hl 0 rfl) ?_
      refine lv_iload hx hb dL_law_1136 (lv_at hl 4 rfl) ?_
      refine lv_iconst (v := 5) hx hb dL_law_1138 (by decide) ?_
      refine lv_iadd hx hb dL_law_1139 ?_
      refine va_sld hx hb hX hbl hbA w.2.2.2.1 hin5 dL_law_1140 ?_
      rw [show xs (x4 + 5 : Int32).toNatClampNeg = z5 from hz5]
      obtain ⟨r, S1, T1, hC, hM, hRel1⟩ := hsim.2.2.2.2.2.2.2.2.2.2.2.2.2.2.2.2.2.2.2.2.2.2.2.2.2.2.2.1 S T hRel (z1) (z2) (z3) (z4) (z5)
      refine cVi (k := 0) (As := [.int z1, .int z2, .int z3, .int z4, .int z5]) (rest := []) X hl.1 w okX11_game obX11 rfl lmL_140 (kX11_game hC) ⟨Nat.le_of_ble_eq_true rfl, Nat.le_of_ble_eq_true rfl⟩ ⟨rfl, rfl⟩ ⟨by show _ ≤ 601024; omega, by show _ ≤ 7293034; omega⟩ rfl rfl (Nat.le_of_ble_eq_true rfl) dL_law_1141 (fun H locs hzz w => ?_)
      refine lv_aload_n hx hb dL_law_1144 rfl (lv_at hl 2 rfl) ?_
      refine lv_aload_n hx hb dL_law_1145 rfl (lv_at hl 0 rfl) ?_
      refine lv_iload hx hb dL_law_1146 (lv_at hl 4 rfl) ?_
      refine lv_iconst (v := 1) hx hb dL_law_1148 (by decide) ?_
      refine lv_iadd hx hb dL_law_1149 ?_
      refine va_sld hx hb hX hbl hbA w.2.2.2.1 hin1 dL_law_1150 ?_
      rw [show xs (x4 + 1 : Int32).toNatClampNeg = z1 from hz1]
      refine lv_aload_n hx hb dL_law_1151 rfl (lv_at hl 0 rfl) ?_
      refine lv_iload hx hb dL_law_1152 (lv_at hl 4 rfl) ?_
      refine lv_iconst (v := 2) hx hb dL_law_1154 (by decide) ?_
      refine lv_iadd hx hb dL_law_1155 ?_
      refine va_sld hx hb hX hbl hbA w.2.2.2.1 hin2 dL_law_1156 ?_
      rw [show xs (x4 + 2 : Int32).toNatClampNeg = z2 from hz2]
      refine lv_aload_n hx hb dL_law_1157 rfl (lv_at hl 0 rfl) ?_
      refine lv_iload hx hb dL_law_1158 (lv_at hl 4 rfl) ?_
      refine lv_iconst (v := 3) hx hb dL_law_1160 (by decide) ?_
      refine lv_iadd hx hb dL_law_1161 ?_
      refine va_sld hx hb hX hbl hbA w.2.2.2.1 hin3 dL_law_1162 ?_
      rw [show xs (x4 + 3 : Int32).toNatClampNeg = z3 from hz3]
      refine lv_aload_n hx hb dL_law_1163 rfl (lv_at hl 0 rfl) ?_
      refine lv_iload hx hb dL_law_1164 (lv_at hl 4 rfl) ?_
      refine lv_iconst (v := 4) hx hb dL_law_1166 (by decide) ?_
      refine lv_iadd hx hb dL_law_1167 ?_
      refine va_sld hx hb hX hbl hbA w.2.2.2.1 hin4 dL_law_1168 ?_
      rw [show xs (x4 + 4 : Int32).toNatClampNeg = z4 from hz4]
      refine lv_aload_n hx hb dL_law_1169 rfl (lv_at hl 0 rfl) ?_
      refine lv_iload hx hb dL_law_1170 (lv_at hl 4 rfl) ?_
      refine lv_iconst (v := 5) hx hb dL_law_1172 (by decide) ?_
      refine lv_iadd hx hb dL_law_1173 ?_
      refine va_sld hx hb hX hbl hbA w.2.2.2.1 hin5 dL_law_1174 ?_
      rw [show xs (x4 + 5 : Int32).toNatClampNeg = z5 from hz5]
      refine cVi (k := 52) (As := [.int z1, .int z2, .int z3, .int z4, .int z5]) (rest := [.int r]) X hl.1 w okX12_game obX12 rfl lmL_143 (kX12_game hM) ⟨Nat.le_of_ble_eq_true rfl, Nat.le_of_ble_eq_true rfl⟩ ⟨rfl, rfl⟩ ⟨by show _ ≤ 601024; omega, by show _ ≤ 7293034; omega⟩ rfl rfl (Nat.le_of_ble_eq_true rfl) dL_law_1175 (fun H locs hzz w => ?_)
      refine lv_icmp_eq (tgt := 1419) hx hb dL_law_1178 (by decide) (fun q7 => ?_) (fun q7 => ?_)
      · exact NEXT _ _ _ _ _ _ _ _ w hRel1 (lv_sub hl [0, 1, 2, 3, 4] rfl)
      · exact absurd rfl q7
    by_cases sw28 : sw = 28
    · refine lv_tableIn (tgt := 1183) hx hb dL_law_40 (by rw [sw28]; decide) (by rw [sw28]; decide) (by rw [sw28]; rfl) (by decide) ?_
      refine W.widen (k := 79 + (i + 6)) (n := 21000 + 40 * (i + 6)) (by omega) (by omega) ?_
      refine lv_aload_n hx hb dL_law_1183 rfl (lv_at hl 1 rfl) ?_
      refine lv_aload_n hx hb dL_law_1184 rfl (lv_at hl 0 rfl) ?_
      refine lv_iload hx hb dL_law_1185 (lv_at hl 4 rfl) ?_
      refine lv_iconst (v := 1) hx hb dL_law_1187 (by decide) ?_
      refine lv_iadd hx hb dL_law_1188 ?_
      refine va_sld hx hb hX hbl hbA w.2.2.2.1 hin1 dL_law_1189 ?_
      rw [show xs (x4 + 1 : Int32).toNatClampNeg = z1 from hz1]
      refine lv_aload_n hx hb dL_law_1190 rfl (lv_at hl 0 rfl) ?_
      refine lv_iload hx hb dL_law_1191 (lv_at hl 4 rfl) ?_
      refine lv_iconst (v := 2) hx hb dL_law_1193 (by decide) ?_
      refine lv_iadd hx hb dL_law_1194 ?_
      refine va_sld hx hb hX hbl hbA w.2.2.2.1 hin2 dL_law_1195 ?_
      rw [show xs (x4 + 2 : Int32).toNatClampNeg = z2 from hz2]
      refine lv_aload_n hx hb dL_law_1196 rfl (lv_at hl 0 rfl) ?_
      refine lv_iload hx hb dL_law_1197 (lv_at hl 4 rfl) ?_
      refine lv_iconst (v := 3) hx hb dL_law_1199 (by decide) ?_
      refine lv_iadd hx hb dL_law_1200 ?_
      refine va_sld hx hb hX hbl hbA w.2.2.2.1 hin3 dL_law_1201 ?_
      rw [show xs (x4 + 3 : Int32).toNatClampNeg = z3 from hz3]
      obtain ⟨r, S1, T1, hC, hM, hRel1⟩ := hsim.2.2.2.2.2.2.2.2.2.2.2.2.2.2.2.2.2.2.2.2.2.2.2.2.2.2.2.2.1 S T hRel (z1) (z2) (z3)
      refine cVi (k := 0) (As := [.int z1, .int z2, .int z3]) (rest := []) X hl.1 w okX11_rests obX11 rfl lmL_144 (kX11_rests hC) ⟨Nat.le_of_ble_eq_true rfl, Nat.le_of_ble_eq_true rfl⟩ ⟨rfl, rfl⟩ ⟨by show _ ≤ 601024; omega, by show _ ≤ 7293034; omega⟩ rfl rfl (Nat.le_of_ble_eq_true rfl) dL_law_1202 (fun H locs hzz w => ?_)
      refine lv_aload_n hx hb dL_law_1205 rfl (lv_at hl 2 rfl) ?_
      refine lv_aload_n hx hb dL_law_1206 rfl (lv_at hl 0 rfl) ?_
      refine lv_iload hx hb dL_law_1207 (lv_at hl 4 rfl) ?_
      refine lv_iconst (v := 1) hx hb dL_law_1209 (by decide) ?_
      refine lv_iadd hx hb dL_law_1210 ?_
      refine va_sld hx hb hX hbl hbA w.2.2.2.1 hin1 dL_law_1211 ?_
      rw [show xs (x4 + 1 : Int32).toNatClampNeg = z1 from hz1]
      refine lv_aload_n hx hb dL_law_1212 rfl (lv_at hl 0 rfl) ?_
      refine lv_iload hx hb dL_law_1213 (lv_at hl 4 rfl) ?_
      refine lv_iconst (v := 2) hx hb dL_law_1215 (by decide) ?_
      refine lv_iadd hx hb dL_law_1216 ?_
      refine va_sld hx hb hX hbl hbA w.2.2.2.1 hin2 dL_law_1217 ?_
      rw [show xs (x4 + 2 : Int32).toNatClampNeg = z2 from hz2]
      refine lv_aload_n hx hb dL_law_1218 rfl (lv_at hl 0 rfl) ?_
      refine lv_iload hx hb dL_law_1219 (lv_at hl 4 rfl) ?_
      refine lv_iconst (v := 3) hx hb dL_law_1221 (by decide) ?_
      refine lv_iadd hx hb dL_law_1222 ?_
      refine va_sld hx hb hX hbl hbA w.2.2.2.1 hin3 dL_law_1223 ?_
      rw [show xs (x4 + 3 : Int32).toNatClampNeg = z3 from hz3]
      refine cVi (k := 52) (As := [.int z1, .int z2, .int z3]) (rest := [.int r]) X hl.1 w okX12_rests obX12 rfl lmL_148 (kX12_rests hM) ⟨Nat.le_of_ble_eq_true rfl, Nat.le_of_ble_eq_true rfl⟩ ⟨rfl, rfl⟩ ⟨by show _ ≤ 601024; omega, by show _ ≤ 7293034; omega⟩ rfl rfl (Nat.le_of_ble_eq_true rfl) dL_law_1224 (fun H locs hzz w => ?_)
      refine lv_icmp_eq (tgt := 1419) hx hb dL_law_1227 (by decide) (fun q7 => ?_) (fun q7 => ?_)
      · exact NEXT _ _ _ _ _ _ _ _ w hRel1 (lv_sub hl [0, 1, 2, 3, 4] rfl)
      · exact absurd rfl q7
    by_cases sw29 : sw = 29
    · refine lv_tableIn (tgt := 1232) hx hb dL_law_40 (by rw [sw29]; decide) (by rw [sw29]; decide) (by rw [sw29]; rfl) (by decide) ?_
      refine W.widen (k := 79 + (i + 6)) (n := 21000 + 40 * (i + 6)) (by omega) (by omega) ?_
      refine lv_aload_n hx hb dL_law_1232 rfl (lv_at hl 1 rfl) ?_
      refine lv_aload_n hx hb dL_law_1233 rfl (lv_at hl 0 rfl) ?_
      refine lv_iload hx hb dL_law_1234 (lv_at hl 4 rfl) ?_
      refine lv_iconst (v := 1) hx hb dL_law_1236 (by decide) ?_
      refine lv_iadd hx hb dL_law_1237 ?_
      refine va_sld hx hb hX hbl hbA w.2.2.2.1 hin1 dL_law_1238 ?_
      rw [show xs (x4 + 1 : Int32).toNatClampNeg = z1 from hz1]
      refine lv_aload_n hx hb dL_law_1239 rfl (lv_at hl 0 rfl) ?_
      refine lv_iload hx hb dL_law_1240 (lv_at hl 4 rfl) ?_
      refine lv_iconst (v := 2) hx hb dL_law_1242 (by decide) ?_
      refine lv_iadd hx hb dL_law_1243 ?_
      refine va_sld hx hb hX hbl hbA w.2.2.2.1 hin2 dL_law_1244 ?_
      rw [show xs (x4 + 2 : Int32).toNatClampNeg = z2 from hz2]
      obtain ⟨r, S1, T1, hC, hM, hRel1⟩ := hsim.2.2.2.2.2.2.2.2.2.2.2.2.2.2.2.2.2.2.2.2.2.2.2.2.2.2.2.2.2.1 S T hRel (z1) (z2)
      refine cVi (k := 0) (As := [.int z1, .int z2]) (rest := []) X hl.1 w okX11_odds obX11 rfl lmL_149 (kX11_odds hC) ⟨Nat.le_of_ble_eq_true rfl, Nat.le_of_ble_eq_true rfl⟩ ⟨rfl, rfl⟩ ⟨by show _ ≤ 601024; omega, by show _ ≤ 7293034; omega⟩ rfl rfl (Nat.le_of_ble_eq_true rfl) dL_law_1245 (fun H locs hzz w => ?_)
      refine lv_aload_n hx hb dL_law_1248 rfl (lv_at hl 2 rfl) ?_
      refine lv_aload_n hx hb dL_law_1249 rfl (lv_at hl 0 rfl) ?_
      refine lv_iload hx hb dL_law_1250 (lv_at hl 4 rfl) ?_
      refine lv_iconst (v := 1) hx hb dL_law_1252 (by decide) ?_
      refine lv_iadd hx hb dL_law_1253 ?_
      refine va_sld hx hb hX hbl hbA w.2.2.2.1 hin1 dL_law_1254 ?_
      rw [show xs (x4 + 1 : Int32).toNatClampNeg = z1 from hz1]
      refine lv_aload_n hx hb dL_law_1255 rfl (lv_at hl 0 rfl) ?_
      refine lv_iload hx hb dL_law_1256 (lv_at hl 4 rfl) ?_
      refine lv_iconst (v := 2) hx hb dL_law_1258 (by decide) ?_
      refine lv_iadd hx hb dL_law_1259 ?_
      refine va_sld hx hb hX hbl hbA w.2.2.2.1 hin2 dL_law_1260 ?_
      rw [show xs (x4 + 2 : Int32).toNatClampNeg = z2 from hz2]
      refine cVi (k := 52) (As := [.int z1, .int z2]) (rest := [.int r]) X hl.1 w okX12_odds obX12 rfl lmL_152 (kX12_odds hM) ⟨Nat.le_of_ble_eq_true rfl, Nat.le_of_ble_eq_true rfl⟩ ⟨rfl, rfl⟩ ⟨by show _ ≤ 601024; omega, by show _ ≤ 7293034; omega⟩ rfl rfl (Nat.le_of_ble_eq_true rfl) dL_law_1261 (fun H locs hzz w => ?_)
      refine lv_icmp_eq (tgt := 1419) hx hb dL_law_1264 (by decide) (fun q7 => ?_) (fun q7 => ?_)
      · exact NEXT _ _ _ _ _ _ _ _ w hRel1 (lv_sub hl [0, 1, 2, 3, 4] rfl)
      · exact absurd rfl q7
    by_cases sw30 : sw = 30
    · refine lv_tableIn (tgt := 1269) hx hb dL_law_40 (by rw [sw30]; decide) (by rw [sw30]; decide) (by rw [sw30]; rfl) (by decide) ?_
      refine W.widen (k := 79 + (i + 6)) (n := 21000 + 40 * (i + 6)) (by omega) (by omega) ?_
      refine lv_aload_n hx hb dL_law_1269 rfl (lv_at hl 1 rfl) ?_
      refine lv_aload_n hx hb dL_law_1270 rfl (lv_at hl 0 rfl) ?_
      refine lv_iload hx hb dL_law_1271 (lv_at hl 4 rfl) ?_
      refine lv_iconst (v := 1) hx hb dL_law_1273 (by decide) ?_
      refine lv_iadd hx hb dL_law_1274 ?_
      refine va_sld hx hb hX hbl hbA w.2.2.2.1 hin1 dL_law_1275 ?_
      rw [show xs (x4 + 1 : Int32).toNatClampNeg = z1 from hz1]
      refine lv_aload_n hx hb dL_law_1276 rfl (lv_at hl 0 rfl) ?_
      refine lv_iload hx hb dL_law_1277 (lv_at hl 4 rfl) ?_
      refine lv_iconst (v := 2) hx hb dL_law_1279 (by decide) ?_
      refine lv_iadd hx hb dL_law_1280 ?_
      refine va_sld hx hb hX hbl hbA w.2.2.2.1 hin2 dL_law_1281 ?_
      rw [show xs (x4 + 2 : Int32).toNatClampNeg = z2 from hz2]
      obtain ⟨r, S1, T1, hC, hM, hRel1⟩ := hsim.2.2.2.2.2.2.2.2.2.2.2.2.2.2.2.2.2.2.2.2.2.2.2.2.2.2.2.2.2.2.1 S T hRel (z1) (z2)
      obtain ⟨hC, ehC⟩ := hC
      subst ehC
      refine cVi (k := 0) (As := [.int z1, .int z2]) (rest := []) X hl.1 w okX11_story obX11 rfl lmL_153 (kX11_story hC) ⟨Nat.le_of_ble_eq_true rfl, Nat.le_of_ble_eq_true rfl⟩ ⟨rfl, rfl⟩ ⟨by show _ ≤ 601024; omega, by show _ ≤ 7293034; omega⟩ rfl rfl (Nat.le_of_ble_eq_true rfl) dL_law_1282 (fun H locs hzz w => ?_)
      refine lv_aload_n hx hb dL_law_1285 rfl (lv_at hl 2 rfl) ?_
      refine lv_aload_n hx hb dL_law_1286 rfl (lv_at hl 0 rfl) ?_
      refine lv_iload hx hb dL_law_1287 (lv_at hl 4 rfl) ?_
      refine lv_iconst (v := 1) hx hb dL_law_1289 (by decide) ?_
      refine lv_iadd hx hb dL_law_1290 ?_
      refine va_sld hx hb hX hbl hbA w.2.2.2.1 hin1 dL_law_1291 ?_
      rw [show xs (x4 + 1 : Int32).toNatClampNeg = z1 from hz1]
      refine lv_aload_n hx hb dL_law_1292 rfl (lv_at hl 0 rfl) ?_
      refine lv_iload hx hb dL_law_1293 (lv_at hl 4 rfl) ?_
      refine lv_iconst (v := 2) hx hb dL_law_1295 (by decide) ?_
      refine lv_iadd hx hb dL_law_1296 ?_
      refine va_sld hx hb hX hbl hbA w.2.2.2.1 hin2 dL_law_1297 ?_
      rw [show xs (x4 + 2 : Int32).toNatClampNeg = z2 from hz2]
      obtain ⟨hM, ehM⟩ := hM
      subst ehM
      refine cVi (k := 52) (As := [.int z1, .int z2]) (rest := [.int r]) X hl.1 w okX12_story obX12 rfl lmL_156 (kX12_story hM) ⟨Nat.le_of_ble_eq_true rfl, Nat.le_of_ble_eq_true rfl⟩ ⟨rfl, rfl⟩ ⟨by show _ ≤ 601024; omega, by show _ ≤ 7293034; omega⟩ rfl rfl (Nat.le_of_ble_eq_true rfl) dL_law_1298 (fun H locs hzz w => ?_)
      refine lv_icmp_eq (tgt := 1419) hx hb dL_law_1301 (by decide) (fun q7 => ?_) (fun q7 => ?_)
      · exact NEXT _ _ _ _ _ _ _ _ w hRel1 (lv_sub hl [0, 1, 2, 3, 4] rfl)
      · exact absurd rfl q7
    by_cases sw31 : sw = 31
    · refine lv_tableIn (tgt := 1306) hx hb dL_law_40 (by rw [sw31]; decide) (by rw [sw31]; decide) (by rw [sw31]; rfl) (by decide) ?_
      refine W.widen (k := 79 + (i + 6)) (n := 21000 + 40 * (i + 6)) (by omega) (by omega) ?_
      refine lv_aload_n hx hb dL_law_1306 rfl (lv_at hl 1 rfl) ?_
      refine lv_aload_n hx hb dL_law_1307 rfl (lv_at hl 0 rfl) ?_
      refine lv_iload hx hb dL_law_1308 (lv_at hl 4 rfl) ?_
      refine lv_iconst (v := 1) hx hb dL_law_1310 (by decide) ?_
      refine lv_iadd hx hb dL_law_1311 ?_
      refine va_sld hx hb hX hbl hbA w.2.2.2.1 hin1 dL_law_1312 ?_
      rw [show xs (x4 + 1 : Int32).toNatClampNeg = z1 from hz1]
      refine lv_aload_n hx hb dL_law_1313 rfl (lv_at hl 0 rfl) ?_
      refine lv_iload hx hb dL_law_1314 (lv_at hl 4 rfl) ?_
      refine lv_iconst (v := 2) hx hb dL_law_1316 (by decide) ?_
      refine lv_iadd hx hb dL_law_1317 ?_
      refine va_sld hx hb hX hbl hbA w.2.2.2.1 hin2 dL_law_1318 ?_
      rw [show xs (x4 + 2 : Int32).toNatClampNeg = z2 from hz2]
      obtain ⟨r, S1, T1, hC, hM, hRel1⟩ := hsim.2.2.2.2.2.2.2.2.2.2.2.2.2.2.2.2.2.2.2.2.2.2.2.2.2.2.2.2.2.2.2.1 S T hRel (z1) (z2)
      obtain ⟨hC, ehC⟩ := hC
      subst ehC
      refine cVi (k := 0) (As := [.int z1, .int z2]) (rest := []) X hl.1 w okX11_shares obX11 rfl lmL_157 (kX11_shares hC) ⟨Nat.le_of_ble_eq_true rfl, Nat.le_of_ble_eq_true rfl⟩ ⟨rfl, rfl⟩ ⟨by show _ ≤ 601024; omega, by show _ ≤ 7293034; omega⟩ rfl rfl (Nat.le_of_ble_eq_true rfl) dL_law_1319 (fun H locs hzz w => ?_)
      refine lv_aload_n hx hb dL_law_1322 rfl (lv_at hl 2 rfl) ?_
      refine lv_aload_n hx hb dL_law_1323 rfl (lv_at hl 0 rfl) ?_
      refine lv_iload hx hb dL_law_1324 (lv_at hl 4 rfl) ?_
      refine lv_iconst (v := 1) hx hb dL_law_1326 (by decide) ?_
      refine lv_iadd hx hb dL_law_1327 ?_
      refine va_sld hx hb hX hbl hbA w.2.2.2.1 hin1 dL_law_1328 ?_
      rw [show xs (x4 + 1 : Int32).toNatClampNeg = z1 from hz1]
      refine lv_aload_n hx hb dL_law_1329 rfl (lv_at hl 0 rfl) ?_
      refine lv_iload hx hb dL_law_1330 (lv_at hl 4 rfl) ?_
      refine lv_iconst (v := 2) hx hb dL_law_1332 (by decide) ?_
      refine lv_iadd hx hb dL_law_1333 ?_
      refine va_sld hx hb hX hbl hbA w.2.2.2.1 hin2 dL_law_1334 ?_
      rw [show xs (x4 + 2 : Int32).toNatClampNeg = z2 from hz2]
      obtain ⟨hM, ehM⟩ := hM
      subst ehM
      refine cVi (k := 52) (As := [.int z1, .int z2]) (rest := [.int r]) X hl.1 w okX12_shares obX12 rfl lmL_160 (kX12_shares hM) ⟨Nat.le_of_ble_eq_true rfl, Nat.le_of_ble_eq_true rfl⟩ ⟨rfl, rfl⟩ ⟨by show _ ≤ 601024; omega, by show _ ≤ 7293034; omega⟩ rfl rfl (Nat.le_of_ble_eq_true rfl) dL_law_1335 (fun H locs hzz w => ?_)
      refine lv_icmp_eq (tgt := 1419) hx hb dL_law_1338 (by decide) (fun q7 => ?_) (fun q7 => ?_)
      · exact NEXT _ _ _ _ _ _ _ _ w hRel1 (lv_sub hl [0, 1, 2, 3, 4] rfl)
      · exact absurd rfl q7
    by_cases sw32 : sw = 32
    · refine lv_tableIn (tgt := 1343) hx hb dL_law_40 (by rw [sw32]; decide) (by rw [sw32]; decide) (by rw [sw32]; rfl) (by decide) ?_
      refine W.widen (k := 79 + (i + 6)) (n := 21000 + 40 * (i + 6)) (by omega) (by omega) ?_
      refine lv_aload_n hx hb dL_law_1343 rfl (lv_at hl 1 rfl) ?_
      refine lv_aload_n hx hb dL_law_1344 rfl (lv_at hl 0 rfl) ?_
      refine lv_iload hx hb dL_law_1345 (lv_at hl 4 rfl) ?_
      refine lv_iconst (v := 1) hx hb dL_law_1347 (by decide) ?_
      refine lv_iadd hx hb dL_law_1348 ?_
      refine va_sld hx hb hX hbl hbA w.2.2.2.1 hin1 dL_law_1349 ?_
      rw [show xs (x4 + 1 : Int32).toNatClampNeg = z1 from hz1]
      obtain ⟨r, S1, T1, hC, hM, hRel1⟩ := hsim.2.2.2.2.2.2.2.2.2.2.2.2.2.2.2.2.2.2.2.2.2.2.2.2.2.2.2.2.2.2.2.2.1 S T hRel (z1)
      refine cVi (k := 0) (As := [.int z1]) (rest := []) X hl.1 w okX11_most obX11 rfl lmL_161 (kX11_most hC) ⟨Nat.le_of_ble_eq_true rfl, Nat.le_of_ble_eq_true rfl⟩ ⟨rfl, rfl⟩ ⟨by show _ ≤ 601024; omega, by show _ ≤ 7293034; omega⟩ rfl rfl (Nat.le_of_ble_eq_true rfl) dL_law_1350 (fun H locs hzz w => ?_)
      refine lv_aload_n hx hb dL_law_1353 rfl (lv_at hl 2 rfl) ?_
      refine lv_aload_n hx hb dL_law_1354 rfl (lv_at hl 0 rfl) ?_
      refine lv_iload hx hb dL_law_1355 (lv_at hl 4 rfl) ?_
      refine lv_iconst (v := 1) hx hb dL_law_1357 (by decide) ?_
      refine lv_iadd hx hb dL_law_1358 ?_
      refine va_sld hx hb hX hbl hbA w.2.2.2.1 hin1 dL_law_1359 ?_
      rw [show xs (x4 + 1 : Int32).toNatClampNeg = z1 from hz1]
      refine cVi (k := 52) (As := [.int z1]) (rest := [.int r]) X hl.1 w okX12_most obX12 rfl lmL_164 (kX12_most hM) ⟨Nat.le_of_ble_eq_true rfl, Nat.le_of_ble_eq_true rfl⟩ ⟨rfl, rfl⟩ ⟨by show _ ≤ 601024; omega, by show _ ≤ 7293034; omega⟩ rfl rfl (Nat.le_of_ble_eq_true rfl) dL_law_1360 (fun H locs hzz w => ?_)
      refine lv_icmp_eq (tgt := 1419) hx hb dL_law_1363 (by decide) (fun q7 => ?_) (fun q7 => ?_)
      · exact NEXT _ _ _ _ _ _ _ _ w hRel1 (lv_sub hl [0, 1, 2, 3, 4] rfl)
      · exact absurd rfl q7
    by_cases sw33 : sw = 33
    · refine lv_tableIn (tgt := 1368) hx hb dL_law_40 (by rw [sw33]; decide) (by rw [sw33]; decide) (by rw [sw33]; rfl) (by decide) ?_
      refine W.widen (k := 79 + (i + 6)) (n := 21000 + 40 * (i + 6)) (by omega) (by omega) ?_
      refine lv_aload_n hx hb dL_law_1368 rfl (lv_at hl 1 rfl) ?_
      obtain ⟨r, S1, T1, hC, hM, hRel1⟩ := hsim.2.2.2.2.2.2.2.2.2.2.2.2.2.2.2.2.2.2.2.2.2.2.2.2.2.2.2.2.2.2.2.2.2.1 S T hRel 
      refine cVi (k := 0) (As := []) (rest := []) X hl.1 w okX11_image obX11 rfl lmL_165 (kX11_image hC) ⟨Nat.le_of_ble_eq_true rfl, Nat.le_of_ble_eq_true rfl⟩ ⟨rfl, rfl⟩ ⟨by show _ ≤ 601024; omega, by show _ ≤ 7293034; omega⟩ rfl rfl (Nat.le_of_ble_eq_true rfl) dL_law_1369 (fun H locs hzz w => ?_)
      refine lv_aload_n hx hb dL_law_1372 rfl (lv_at hl 2 rfl) ?_
      refine cVi (k := 52) (As := []) (rest := [.int r]) X hl.1 w okX12_image obX12 rfl lmL_168 (kX12_image hM) ⟨Nat.le_of_ble_eq_true rfl, Nat.le_of_ble_eq_true rfl⟩ ⟨rfl, rfl⟩ ⟨by show _ ≤ 601024; omega, by show _ ≤ 7293034; omega⟩ rfl rfl (Nat.le_of_ble_eq_true rfl) dL_law_1373 (fun H locs hzz w => ?_)
      refine lv_icmp_eq (tgt := 1419) hx hb dL_law_1376 (by decide) (fun q7 => ?_) (fun q7 => ?_)
      · exact NEXT _ _ _ _ _ _ _ _ w hRel1 (lv_sub hl [0, 1, 2, 3, 4] rfl)
      · exact absurd rfl q7
    by_cases sw34 : sw = 34
    · refine lv_tableIn (tgt := 1381) hx hb dL_law_40 (by rw [sw34]; decide) (by rw [sw34]; decide) (by rw [sw34]; rfl) (by decide) ?_
      refine W.widen (k := 79 + (i + 6)) (n := 21000 + 40 * (i + 6)) (by omega) (by omega) ?_
      refine lv_aload_n hx hb dL_law_1381 rfl (lv_at hl 1 rfl) ?_
      obtain ⟨r, S1, T1, hC, hM, hRel1⟩ := hsim.2.2.2.2.2.2.2.2.2.2.2.2.2.2.2.2.2.2.2.2.2.2.2.2.2.2.2.2.2.2.2.2.2.2.1 S T hRel 
      refine cVi (k := 0) (As := []) (rest := []) X hl.1 w okX11_back obX11 rfl lmL_169 (kX11_back hC) ⟨Nat.le_of_ble_eq_true rfl, Nat.le_of_ble_eq_true rfl⟩ ⟨rfl, rfl⟩ ⟨by show _ ≤ 601024; omega, by show _ ≤ 7293034; omega⟩ rfl rfl (Nat.le_of_ble_eq_true rfl) dL_law_1382 (fun H locs hzz w => ?_)
      refine lv_aload_n hx hb dL_law_1385 rfl (lv_at hl 2 rfl) ?_
      refine cVi (k := 52) (As := []) (rest := [.int r]) X hl.1 w okX12_back obX12 rfl lmL_172 (kX12_back hM) ⟨Nat.le_of_ble_eq_true rfl, Nat.le_of_ble_eq_true rfl⟩ ⟨rfl, rfl⟩ ⟨by show _ ≤ 601024; omega, by show _ ≤ 7293034; omega⟩ rfl rfl (Nat.le_of_ble_eq_true rfl) dL_law_1386 (fun H locs hzz w => ?_)
      refine lv_icmp_eq (tgt := 1419) hx hb dL_law_1389 (by decide) (fun q7 => ?_) (fun q7 => ?_)
      · exact NEXT _ _ _ _ _ _ _ _ w hRel1 (lv_sub hl [0, 1, 2, 3, 4] rfl)
      · exact absurd rfl q7
    by_cases sw35 : sw = 35
    · refine lv_tableIn (tgt := 1394) hx hb dL_law_40 (by rw [sw35]; decide) (by rw [sw35]; decide) (by rw [sw35]; rfl) (by decide) ?_
      refine W.widen (k := 79 + (i + 6)) (n := 21000 + 40 * (i + 6)) (by omega) (by omega) ?_
      refine lv_aload_n hx hb dL_law_1394 rfl (lv_at hl 1 rfl) ?_
      refine lv_aload_n hx hb dL_law_1395 rfl (lv_at hl 0 rfl) ?_
      refine lv_iload hx hb dL_law_1396 (lv_at hl 4 rfl) ?_
      refine lv_iconst (v := 1) hx hb dL_law_1398 (by decide) ?_
      refine lv_iadd hx hb dL_law_1399 ?_
      refine va_sld hx hb hX hbl hbA w.2.2.2.1 hin1 dL_law_1400 ?_
      rw [show xs (x4 + 1 : Int32).toNatClampNeg = z1 from hz1]
      obtain ⟨r, S1, T1, hC, hM, hRel1⟩ := hsim.2.2.2.2.2.2.2.2.2.2.2.2.2.2.2.2.2.2.2.2.2.2.2.2.2.2.2.2.2.2.2.2.2.2.2 S T hRel (z1)
      obtain ⟨hC, ehC⟩ := hC
      subst ehC
      refine cVi (k := 0) (As := [.int z1]) (rest := []) X hl.1 w okX11_count obX11 rfl lmL_173 (kX11_count hC) ⟨Nat.le_of_ble_eq_true rfl, Nat.le_of_ble_eq_true rfl⟩ ⟨rfl, rfl⟩ ⟨by show _ ≤ 601024; omega, by show _ ≤ 7293034; omega⟩ rfl rfl (Nat.le_of_ble_eq_true rfl) dL_law_1401 (fun H locs hzz w => ?_)
      refine lv_aload_n hx hb dL_law_1404 rfl (lv_at hl 2 rfl) ?_
      refine lv_aload_n hx hb dL_law_1405 rfl (lv_at hl 0 rfl) ?_
      refine lv_iload hx hb dL_law_1406 (lv_at hl 4 rfl) ?_
      refine lv_iconst (v := 1) hx hb dL_law_1408 (by decide) ?_
      refine lv_iadd hx hb dL_law_1409 ?_
      refine va_sld hx hb hX hbl hbA w.2.2.2.1 hin1 dL_law_1410 ?_
      rw [show xs (x4 + 1 : Int32).toNatClampNeg = z1 from hz1]
      obtain ⟨hM, ehM⟩ := hM
      subst ehM
      refine cVi (k := 52) (As := [.int z1]) (rest := [.int r]) X hl.1 w okX12_count obX12 rfl lmL_176 (kX12_count hM) ⟨Nat.le_of_ble_eq_true rfl, Nat.le_of_ble_eq_true rfl⟩ ⟨rfl, rfl⟩ ⟨by show _ ≤ 601024; omega, by show _ ≤ 7293034; omega⟩ rfl rfl (Nat.le_of_ble_eq_true rfl) dL_law_1411 (fun H locs hzz w => ?_)
      refine lv_icmp_eq (tgt := 1419) hx hb dL_law_1414 (by decide) (fun q7 => ?_) (fun q7 => ?_)
      · exact NEXT _ _ _ _ _ _ _ _ w hRel1 (lv_sub hl [0, 1, 2, 3, 4] rfl)
      · exact absurd rfl q7
    have hw0 := ne_int (n := 0) (by decide) sw0
    have hw1 := ne_int (n := 1) (by decide) sw1
    have hw2 := ne_int (n := 2) (by decide) sw2
    have hw3 := ne_int (n := 3) (by decide) sw3
    have hw4 := ne_int (n := 4) (by decide) sw4
    have hw5 := ne_int (n := 5) (by decide) sw5
    have hw6 := ne_int (n := 6) (by decide) sw6
    have hw7 := ne_int (n := 7) (by decide) sw7
    have hw8 := ne_int (n := 8) (by decide) sw8
    have hw9 := ne_int (n := 9) (by decide) sw9
    have hw10 := ne_int (n := 10) (by decide) sw10
    have hw11 := ne_int (n := 11) (by decide) sw11
    have hw12 := ne_int (n := 12) (by decide) sw12
    have hw13 := ne_int (n := 13) (by decide) sw13
    have hw14 := ne_int (n := 14) (by decide) sw14
    have hw15 := ne_int (n := 15) (by decide) sw15
    have hw16 := ne_int (n := 16) (by decide) sw16
    have hw17 := ne_int (n := 17) (by decide) sw17
    have hw18 := ne_int (n := 18) (by decide) sw18
    have hw19 := ne_int (n := 19) (by decide) sw19
    have hw20 := ne_int (n := 20) (by decide) sw20
    have hw21 := ne_int (n := 21) (by decide) sw21
    have hw22 := ne_int (n := 22) (by decide) sw22
    have hw23 := ne_int (n := 23) (by decide) sw23
    have hw24 := ne_int (n := 24) (by decide) sw24
    have hw25 := ne_int (n := 25) (by decide) sw25
    have hw26 := ne_int (n := 26) (by decide) sw26
    have hw27 := ne_int (n := 27) (by decide) sw27
    have hw28 := ne_int (n := 28) (by decide) sw28
    have hw29 := ne_int (n := 29) (by decide) sw29
    have hw30 := ne_int (n := 30) (by decide) sw30
    have hw31 := ne_int (n := 31) (by decide) sw31
    have hw32 := ne_int (n := 32) (by decide) sw32
    have hw33 := ne_int (n := 33) (by decide) sw33
    have hw34 := ne_int (n := 34) (by decide) sw34
    have hw35 := ne_int (n := 35) (by decide) sw35
    refine lv_tableOut (tgt := 1419) hx hb dL_law_40 (by omega) (by decide) ?_
    refine W.widen (k := 79 + (i + 6)) (n := 21000 + 40 * (i + 6)) (by omega) (by omega) ?_
    exact NEXT ad dA S T o _ _ _ w hRel (lv_sub hl [0, 1, 2, 3, 4] rfl)
