/-! undo, image, back -/
theorem rel_now {N E : Nat} {S T S' T' : SS} (h : RelE N E S T) (fS : ∀ k, k < 16 ∨ 25 < k → S'.1 k = S.1 k) (f23 : S'.1 23 4 = S.1 23 4) (f2 : S'.2.2 = S.2.2) (h4 : S'.1 18 4 = S.1 18 4) (fT : ∀ k, k ≠ 61 → k ≠ 62 → k ≠ 67 → k ≠ 69 → k ≠ 52 → T'.1 k = T.1 k) (f52 : ∀ j, j ≠ 28 → T'.1 52 j = T.1 52 j) (ha' : rAct E S' T') : RelE N E S' T' := by
  obtain ⟨ht, hm, hl, ha, hi, hs, hz⟩ := h
  have sS : ∀ P : Nat → Nat → Prop, (∀ k j, P k j → (k < 16 ∨ 25 < k) ∨ (k = 23 ∧ j = 4) ∨ (k = 18 ∧ j = 4)) → Sm P S S' := fun P hP k j p => by
    rcases hP k j p with q | ⟨rfl, rfl⟩ | ⟨rfl, rfl⟩
    · exact congrFun (fS k q) j
    · exact f23
    · exact h4
  have sT : ∀ P : Nat → Nat → Prop, (∀ k j, P k j → (k ≠ 61 ∧ k ≠ 62 ∧ k ≠ 67 ∧ k ≠ 69 ∧ k ≠ 52) ∨ (k = 52 ∧ j ≠ 28)) → Sm P T T' := fun P hP k j p => by
    rcases hP k j p with ⟨q1, q2, q3, q4, q5⟩ | ⟨rfl, q⟩
    · exact congrFun (fT k q1 q2 q3 q4 q5) j
    · exact f52 j q
  refine ⟨rTape_c (sS _ ?_) (sT _ ?_) ht, rMill_c (sS _ ?_) (sT _ ?_) hm, rLaw_c (sS _ ?_) f2 (sT _ ?_) hl, ha', rImg_c (sS _ ?_) (sT _ ?_) hi, rSeen_c (sS _ ?_) (sT _ ?_) hs, rMisc_c (sS _ ?_) (sT _ ?_) hz⟩
  · intro k j p
    unfold tapeC at p
    omega
  · intro k j p
    unfold tapeM at p
    omega
  · intro k j p
    unfold millC at p
    omega
  · intro k j p
    unfold millM at p
    omega
  · intro k j p
    unfold lawC at p
    omega
  · intro k j p
    unfold lawM at p
    omega
  · intro k j p
    unfold imgC at p
    omega
  · intro k j p
    unfold imgM at p
    omega
  · intro k j p
    unfold seenC at p
    omega
  · intro k j p
    unfold seenM at p
    omega
  · intro k j p
    unfold miscC at p
    omega
  · intro k j p
    unfold miscM at p
    omega
theorem undo_l {N a : Nat} (ha : a < 40) {T0 : SS} (h28 : gi T0 52 28 = nI a) : ∀ (j i n : Nat) (T : SS), Fr [67] T0 T → (∀ q, T.1 67 q = if q < i then T0.1 69 (214 * a + q) else T0.1 67 q) → i + j = 214 → j < n → ∃ T2, fX12_undo_l21 N n (nI i) T = some (T2, nI a) ∧ Fr [67] T0 T2 ∧ ∀ q, T2.1 67 q = if q < 214 then T0.1 69 (214 * a + q) else T0.1 67 q := by
  intro j
  induction j with
  | zero =>
    intro i n T fT hq hi hn
    obtain ⟨n, rfl⟩ : ∃ q, n = q + 1 := ⟨n - 1, by omega⟩
    have : i = 214 := by omega
    subst this
    unfold fX12_undo_l21
    rw [if_pos (by decide), fT.gi (by decide), h28]
    exact ⟨T, rfl, fT, hq⟩
  | succ j ih =>
    intro i n T fT hq hi hn
    obtain ⟨n, rfl⟩ : ∃ q, n = q + 1 := ⟨n - 1, by omega⟩
    unfold fX12_undo_l21
    rw [if_neg (show ¬ (214 : Int32) ≤ nI i from nI_ge (b := 214) (by omega) (by omega)), fT.gi (by decide), h28, show (214 : Int32) = nI 214 from rfl, pk_mul, nI_add, ck_in (by omega) (by omega), ck_in (by omega) (by omega), lt_s9, lt_s9, nI_1, ga_nI (by omega)]
    refine ih (i + 1) n _ (fT.tr (Fr.pa (by decide))) (fun q => ?_) (by omega) (by omega)
    rw [row_pa, if_pos rfl, nI_clamp (by omega), fT.row (k := 69) (by decide)]
    by_cases e : q = i
    · subst e
      rw [pk_us, if_pos (by omega)]
    · rw [pk_un e, hq q]
      by_cases e2 : q < i
      · rw [if_pos e2, if_pos (by omega)]
      · rw [if_neg e2, if_neg (by omega)]
theorem image_l {N : Nat} {T0 : SS} : ∀ (j i n : Nat) (T : SS), Fr [77] T0 T → (∀ q, T.1 77 q = if q < i then T0.1 67 q else T0.1 77 q) → i + j = 214 → j < n → ∃ T2, fX12_image_l11 N n (nI i) T = some (pj T2 52 44 1, T0.1 67 32) ∧ Fr [77] T0 T2 ∧ ∀ q, T2.1 77 q = if q < 214 then T0.1 67 q else T0.1 77 q := by
  intro j
  induction j with
  | zero =>
    intro i n T fT hq hi hn
    obtain ⟨n, rfl⟩ : ∃ q, n = q + 1 := ⟨n - 1, by omega⟩
    have : i = 214 := by omega
    subst this
    unfold fX12_image_l11
    rw [if_pos (by decide), lt_s9]
    refine ⟨T, ?_, fT, hq⟩
    have : ga (pj T 52 44 1) 67 32 = T0.1 67 32 := by
      show (pj T 52 44 1).1 67 32 = _
      rw [row_pj, if_neg (by decide), fT.row (k := 67) (by decide)]
    rw [this]
  | succ j ih =>
    intro i n T fT hq hi hn
    obtain ⟨n, rfl⟩ : ∃ q, n = q + 1 := ⟨n - 1, by omega⟩
    unfold fX12_image_l11
    rw [if_neg (show ¬ (214 : Int32) ≤ nI i from nI_ge (b := 214) (by omega) (by omega)), ck_in (by omega) (by omega), ck_in (by omega) (by omega), lt_s9, lt_s9, nI_1, ga_nI (by omega)]
    refine ih (i + 1) n _ (fT.tr (Fr.pa (by decide))) (fun q => ?_) (by omega) (by omega)
    rw [row_pa, if_pos rfl, nI_clamp (by omega), fT.row (k := 67) (by decide)]
    by_cases e : q = i
    · subst e
      rw [pk_us, if_pos (by omega)]
    · rw [pk_un e, hq q]
      by_cases e2 : q < i
      · rw [if_pos e2, if_pos (by omega)]
      · rw [if_neg e2, if_neg (by omega)]
theorem back_l {N : Nat} {T0 : SS} : ∀ (j i n : Nat) (T : SS), Fr [67] T0 T → (∀ q, T.1 67 q = if q < i then T0.1 77 q else T0.1 67 q) → i + j = 214 → j < n → ∃ T2, fX12_back_l11 N n (nI i) T = some (pj T2 52 28 0, T0.1 77 32) ∧ Fr [67] T0 T2 ∧ ∀ q, T2.1 67 q = if q < 214 then T0.1 77 q else T0.1 67 q := by
  intro j
  induction j with
  | zero =>
    intro i n T fT hq hi hn
    obtain ⟨n, rfl⟩ : ∃ q, n = q + 1 := ⟨n - 1, by omega⟩
    have : i = 214 := by omega
    subst this
    unfold fX12_back_l11
    rw [if_pos (by decide), lt_s9]
    refine ⟨T, ?_, fT, hq⟩
    have : ga (pj T 52 28 0) 67 32 = T0.1 77 32 := by
      show (pj T 52 28 0).1 67 32 = _
      rw [row_pj, if_neg (by decide), hq 32, if_pos (by omega)]
    rw [this]
  | succ j ih =>
    intro i n T fT hq hi hn
    obtain ⟨n, rfl⟩ : ∃ q, n = q + 1 := ⟨n - 1, by omega⟩
    unfold fX12_back_l11
    rw [if_neg (show ¬ (214 : Int32) ≤ nI i from nI_ge (b := 214) (by omega) (by omega)), ck_in (by omega) (by omega), ck_in (by omega) (by omega), lt_s9, lt_s9, nI_1, ga_nI (by omega)]
    refine ih (i + 1) n _ (fT.tr (Fr.pa (by decide))) (fun q => ?_) (by omega) (by omega)
    rw [row_pa, if_pos rfl, nI_clamp (by omega), fT.row (k := 77) (by decide)]
    by_cases e : q = i
    · subst e
      rw [pk_us, if_pos (by omega)]
    · rw [pk_un e, hq q]
      by_cases e2 : q < i
      · rw [if_pos e2, if_pos (by omega)]
      · rw [if_neg e2, if_neg (by omega)]
theorem ring_c {r r' m : Nat → Int32} (e : ∀ j, j < 300 → r' j = r j) (h : logE r m) : logE r' m := ⟨h.1, fun i w hi hw => by
  rw [e _ (by omega)]
  exact h.2 i w hi hw⟩
theorem s_undo {N : Nat} (hN : 10000 ≤ N) {S T : SS} (h : Rel N S T) : ∃ (r : Int32) (S' T' : SS), (fX11_undo N S = some (S', r)) ∧ (fX12_undo N T = some (T', r)) ∧ Rel N S' T' := by
  obtain ⟨E, hR⟩ := relE_of h
  have hE := hR.2.1.2.2.1
  obtain ⟨h0, nx, a, b1, b2', b3, b4, b5, b6, b7, b8⟩ := hR.2.2.2.1
  unfold fX11_undo fX12_undo fX4_bringBackLatest
  rw [b4, b5]
  by_cases c : a = 0
  · subst c
    rw [if_pos (show nI 0 = 0 from rfl), if_pos (show nI 0 = 0 from rfl), b2_s rfl, if_pos rfl]
    exact ⟨_, S, T, rfl, rfl, h⟩
  have cn : ¬ nI a = 0 := fun z => c ((nI_eq (b := 0) (by omega) (by omega)).mp z)
  rw [if_neg cn, if_neg cn]
  simp only [lt_s9]
  have g6 : gi (pj S 23 5 (ir (gi S 23 5 + 40 - 1) 40)) 23 6 = nI a := b4
  rw [g6, b3, (k_ir nx b1).2.1, nI_s1 (by omega)]
  have g5 : gi (pj (pj S 23 5 (nI ((nx + 39) % 40))) 23 6 (nI (a - 1))) 23 5 = nI ((nx + 39) % 40) := rfl
  rw [g5, (k_ir ((nx + 39) % 40) (by omega)).2.2]
  obtain ⟨S1, z1, z2, z3, z4⟩ := c_read (N := N) (q := 24) (p := (nx + 39) % 40 * 33) (L := 1320) (S := pj (pj S 23 5 (nI ((nx + 39) % 40))) 23 6 (nI (a - 1))) (by decide) rfl (by omega) (by omega)
  have g28 : gi (pj T 52 28 (nI (a - 1))) 52 28 = nI (a - 1) := rfl
  obtain ⟨T1, y1, y2, y3⟩ := undo_l (N := N) (a := a - 1) (by omega) g28 214 0 N _ Fr.rf (fun q => by rw [if_neg (by omega)]) (by omega) (by omega)
  have y1' : fX12_undo_l21 N N 0 (pj T 52 28 (nI (a - 1))) = _ := y1
  rw [y1', bd_s z1, b2_s rfl, if_neg n10]
  have e6 : gi S1 23 6 = nI (a - 1) := z2.gi (by decide)
  rw [e6]
  have e24 : S1.1 24 = S.1 24 := z2.row (by decide)
  have e25 : S1.1 25 = S.1 25 := z2.row (by decide)
  have t69 : T1.1 69 = T.1 69 := y2.row (by decide)
  have tj : ∀ j, j < 214 → T1.1 67 j = kM T a 0 j := fun j hj => by
    rw [y3 j, if_pos hj]
    exact congrArg (T.1 69) (by omega)
  have kc : ∀ j z, j + 1 < a → kC S1 ((nx + 39) % 40) j z = kC S nx (j + 1) z := fun j z hj => by
    unfold kC
    rw [e24]
    exact congrArg (S.1 24) (by omega)
  have km : ∀ j z, j + 1 < a → kM T1 (a - 1) j z = kM T a (j + 1) z := fun j z hj => by
    unfold kM
    rw [t69]
    exact congrArg (T.1 69) (by omega)
  have dn : dayN (T1.1 67) = dayN (kM T a 0) := day_c (tj 32 (by omega))
  have dj : ∀ j, j + 1 < a → dayN (kM T1 (a - 1) j) = dayN (kM T a (j + 1)) := fun j hj => day_c (km j 32 hj)
  refine ⟨nI (a - 1), S1, T1, rfl, rfl, E, rel_now hR (fun k hk => ?_) ?_ ?_ ?_ (fun k _ _ q3 _ q5 => ?_) (fun j hj => ?_) ⟨?_, (nx + 39) % 40, a - 1, by omega, by omega, z2.gi (by decide), e6, ?_, fun j hj => ?_, fun hp => ?_, fun j hj => ?_⟩⟩
  · rw [z2.row (by simp; omega), row_pj, if_neg (by omega), row_pj, if_neg (by omega)]
  · rw [z2.row (k := 23) (by decide), row_pj, if_pos rfl, pk_un (by decide), row_pj, if_pos rfl, pk_un (by decide)]
  · rw [z2.2]
    rfl
  · exact z3
  · rw [y2.row (by simp [q3]), row_pj, if_neg q5]
  · rw [y2.row (k := 52) (by decide), row_pj, if_pos rfl, pk_un hj]
  · rw [e25]
    exact stE_c hE (fun z hz => by
      rw [z4 z hz.2]
      show (pj (pj S 23 5 (nI ((nx + 39) % 40))) 23 6 (nI (a - 1))).1 24 _ = kC S nx 0 z
      rw [row_pj, if_neg (by decide), row_pj, if_neg (by decide)]
      exact congrArg (S.1 24) (by omega)) tj (b6 0 (by omega))
  · rw [y2.gi (by decide)]
    rfl
  · rw [e25]
    exact stE_c hE (fun z _ => kc j z (by omega)) (fun z _ => km j z (by omega)) (b6 (j + 1) (by omega))
  · rw [dn, dj 0 (by omega)]
    exact b8 0 (by omega)
  · rw [dj (j + 1) (by omega), dj j (by omega)]
    exact b8 (j + 1) (by omega)
theorem s_image {N : Nat} (hN : 10000 ≤ N) {S T : SS} (h : Rel N S T) : ∃ (r : Int32) (S' T' : SS), (fX11_image N S = some (S', r)) ∧ (fX12_image N T = some (T', r)) ∧ Rel N S' T' := by
  obtain ⟨E, hR⟩ := relE_of h
  obtain ⟨hE, hm, hv, hw⟩ := relE_cx hR
  unfold fX11_image fX12_image fX4_keepImage
  rcases there2 (N := N) hm with ⟨_, e1, e2⟩ | ⟨hp, e1, e2⟩
  · rw [bd_s e1, if_pos rfl, if_pos e2]
    exact ⟨_, S, T, rfl, rfl, h⟩
  rw [bd_s e1, if_neg n10, if_neg e2]
  obtain ⟨S1, z1, z2, z3⟩ := c_write (N := N) (q := 26) (p := 0) (L := 33) (S := S) (by decide) rfl (by omega) (by omega)
  have z1' : fX8_writeTo N S 18 26 0 = _ := z1
  obtain ⟨T1, y1, y2, y3⟩ := image_l (N := N) (T0 := T) 214 0 N T Fr.rf (fun q => by rw [if_neg (by omega)]) (by omega) (by omega)
  have y1' : fX12_image_l11 N N 0 T = _ := y1
  rw [bd_s z1', y1', lt_s9, lt_s9, bd_s rfl]
  have er : ∀ k, (cp S1 25 (nI 0) 27 (nI 0) (nI 300)).1 k = if k = 27 then va_cpy (S1.1 25) (S1.1 27) 0 0 300 else S1.1 k := fun k => row_cp (by omega) (by omega) (by omega)
  have er' : ∀ k, (pj (cp S1 25 0 27 0 300) 23 4 1).1 k = if k = 23 then upd (S.1 23) 4 1 else if k = 27 then va_cpy (S1.1 25) (S1.1 27) 0 0 300 else S1.1 k := fun k => by
    rw [row_pj]
    have q : ∀ k, (cp S1 25 0 27 0 300).1 k = if k = 27 then va_cpy (S1.1 25) (S1.1 27) 0 0 300 else S1.1 k := er
    rw [q 23, if_neg (show ¬ (23 : Nat) = 27 by decide), z2.row (k := 23) (by decide), q k]
  have e9 : gi (pj (cp S1 25 0 27 0 300) 23 4 1) 18 9 = T.1 67 32 := by
    unfold gi
    rw [er' 18, if_neg (by decide), if_neg (by decide), z2.row (k := 18) (by decide)]
    exact hv.2.2.2.2.2.2
  rw [e9]
  obtain ⟨ht, hm, hl, ha, hi, hs, hz⟩ := hR
  have sS : ∀ P : Nat → Nat → Prop, (∀ k j, P k j → k ≠ 26 ∧ k ≠ 27 ∧ ¬ (k = 23 ∧ j = 4)) → Sm P S (pj (cp S1 25 0 27 0 300) 23 4 1) := fun P hP k j p => by
    obtain ⟨q1, q2, q3⟩ := hP k j p
    rw [er' k]
    by_cases q : k = 23
    · subst q
      rw [if_pos rfl, pk_un (fun z => q3 ⟨rfl, z⟩)]
    · rw [if_neg q, if_neg q2, z2.row (by simp [q1])]
  have sT : ∀ P : Nat → Nat → Prop, (∀ k j, P k j → k ≠ 77 ∧ ¬ (k = 52 ∧ j = 44)) → Sm P T (pj T1 52 44 1) := fun P hP k j p => by
    obtain ⟨q1, q3⟩ := hP k j p
    rw [row_pj]
    by_cases q : k = 52
    · subst q
      rw [if_pos rfl, pk_un (fun z => q3 ⟨rfl, z⟩), y2.row (by decide)]
    · rw [if_neg q, y2.row (by simp [q1])]
  refine ⟨T.1 67 32, _, _, rfl, rfl, E, rTape_c (sS _ ?_) (sT _ ?_) ht, rMill_c (sS _ ?_) (sT _ ?_) hm, rLaw_c (sS _ ?_) ?_ (sT _ ?_) hl, rAct_c (sS _ ?_) (sT _ ?_) ha, ⟨Or.inr rfl, rfl, fun _ => ⟨hp, ?_⟩⟩, rSeen_c (sS _ ?_) (sT _ ?_) hs, rMisc_c (sS _ ?_) (sT _ ?_) hz⟩
  · intro k j p
    unfold tapeC at p
    omega
  · intro k j p
    unfold tapeM at p
    omega
  · intro k j p
    unfold millC at p
    omega
  · intro k j p
    unfold millM at p
    omega
  · intro k j p
    unfold lawC at p
    omega
  · show S1.2.2 = S.2.2
    rw [z2.2]
  · intro k j p
    unfold lawM at p
    omega
  · intro k j p
    unfold actC at p
    omega
  · intro k j p
    unfold actM at p
    omega
  · rw [er' 27, if_neg (by decide), if_pos rfl, er' 26, if_neg (by decide), if_neg (by decide), row_pj, if_neg (by decide)]
    have q : stE E (S.1 25) (S1.1 26) (T1.1 77) := stE_c hE (fun j hj => by rw [z3 j, if_pos ⟨by omega, by have := hj.2; omega⟩]; exact congrArg (nowC S) (by omega)) (fun j hj => by rw [y3 j, if_pos hj]) ha.1
    exact ⟨q.1, q.2.1, ring_c (fun j hj => by rw [pk_cpy_in (by omega) (by omega), z2.row (k := 25) (by decide)]; exact congrArg (S.1 25) (by omega)) q.2.2⟩
  · intro k j p
    unfold seenC at p
    omega
  · intro k j p
    unfold seenM at p
    omega
  · intro k j p
    unfold miscC at p
    omega
  · intro k j p
    unfold miscM at p
    omega
theorem s_back {N : Nat} (hN : 10000 ≤ N) {S T : SS} (h : Rel N S T) : ∃ (r : Int32) (S' T' : SS), (fX11_back N S = some (S', r)) ∧ (fX12_back N T = some (T', r)) ∧ Rel N S' T' := by
  obtain ⟨E, hR⟩ := relE_of h
  obtain ⟨hE, hm, hv, hw⟩ := relE_cx hR
  obtain ⟨i1, i2, i3⟩ := hR.2.2.2.2.1
  unfold fX11_back fX12_back fX4_bringBackImage
  rw [i2]
  rcases i1 with i1 | i1
  · rw [i1, if_pos rfl, if_pos rfl, b2_s rfl, if_pos rfl]
    exact ⟨_, S, T, rfl, rfl, h⟩
  obtain ⟨hp, hst⟩ := i3 i1
  rw [i1, if_neg n10, if_neg n10]
  obtain ⟨S1, z1, z2, z3, z4⟩ := c_read (N := N) (q := 26) (p := 0) (L := 33) (S := S) (by decide) rfl (by omega) (by omega)
  have z1' : fX8_readFrom N S 18 26 0 = _ := z1
  obtain ⟨T1, y1, y2, y3⟩ := back_l (N := N) (T0 := T) 214 0 N T Fr.rf (fun q => by rw [if_neg (by omega)]) (by omega) (by omega)
  have y1' : fX12_back_l11 N N 0 T = _ := y1
  rw [bd_s z1', y1', lt_s9, lt_s9, b2_s rfl, if_neg n10]
  have er : ∀ k, (cp S1 27 (nI 0) 25 (nI 0) (nI 300)).1 k = if k = 25 then va_cpy (S1.1 27) (S1.1 25) 0 0 300 else S1.1 k := fun k => row_cp (by omega) (by omega) (by omega)
  have er' : ∀ k, (pj (cp S1 27 0 25 0 300) 23 6 0).1 k = if k = 23 then upd (S.1 23) 6 0 else if k = 25 then va_cpy (S1.1 27) (S1.1 25) 0 0 300 else S1.1 k := fun k => by
    rw [row_pj]
    have q : ∀ k, (cp S1 27 0 25 0 300).1 k = if k = 25 then va_cpy (S1.1 27) (S1.1 25) 0 0 300 else S1.1 k := er
    rw [q 23, if_neg (show ¬ (23 : Nat) = 25 by decide), z2.row (k := 23) (by decide), q k]
  have en : nowC (pj (cp S1 27 0 25 0 300) 23 6 0) = nowC S1 := by
    funext j
    unfold nowC
    rw [er' 18, er' 19, er' 20, er' 21, er' 22]
    rfl
  have q : stE E (S.1 27) (nowC S1) (T1.1 67) := stE_c hE (fun j hj => by rw [z4 j hj.2]; exact congrArg (S.1 26) (by omega)) (fun j hj => by rw [y3 j, if_pos hj]) hst
  have e9 : gi (pj (cp S1 27 0 25 0 300) 23 6 0) 18 9 = T.1 77 32 := by
    unfold gi
    rw [er' 18, if_neg (by decide), if_neg (by decide)]
    have w1 := q.1 32 ⟨fun z => absurd z (by omega), by omega⟩
    rw [y3 32, if_pos (by omega)] at w1
    exact w1
  rw [e9]
  obtain ⟨_, nx, a, b1, b2', b3, b4, b5, b6, b7, b8⟩ := hR.2.2.2.1
  refine ⟨T.1 77 32, _, _, rfl, rfl, E, rel_now hR (fun k hk => ?_) ?_ ?_ ?_ (fun k _ _ q3 _ q5 => ?_) (fun j hj => ?_) ⟨?_, nx, 0, b1, by omega, ?_, ?_, rfl, fun j hj => absurd hj (by omega), fun hp => absurd hp (by omega), fun j hj => absurd hj (by omega)⟩⟩
  · rw [er' k, if_neg (by omega), if_neg (by omega), z2.row (by simp; omega)]
  · rw [er' 23, if_pos rfl, pk_un (by decide)]
  · show S1.2.2 = S.2.2
    rw [z2.2]
  · rw [er' 18, if_neg (by decide), if_neg (by decide)]
    exact z3
  · rw [row_pj, if_neg q5, y2.row (by simp [q3])]
  · rw [row_pj, if_pos rfl, pk_un hj, y2.row (k := 52) (by decide)]
  · rw [en, er' 25, if_neg (by decide), if_pos rfl, row_pj, if_neg (by decide)]
    exact ⟨q.1, q.2.1, ring_c (fun j hj => by rw [pk_cpy_in (by omega) (by omega), z2.row (k := 27) (by decide)]; exact congrArg (S.1 27) (by omega)) q.2.2⟩
  · unfold gi
    rw [er' 23, if_pos rfl, pk_un (by decide)]
    exact b3
  · unfold gi
    rw [er' 23, if_pos rfl, pk_us]
    rfl
