/-! keep, refuse, and what an act owes -/
def RelE (N E : Nat) (S T : SS) : Prop := rTape S T ∧ rMill E S T ∧ rLaw N S T ∧ rAct E S T ∧ rImg E S T ∧ rSeen E S T ∧ rMisc S T
/-- cells of X and slot 28 of the reference's object may differ -/
def FJ (X : List Nat) (T T' : SS) : Prop := (∀ k, k ∉ X → k ≠ 52 → T'.1 k = T.1 k) ∧ (∀ j, j ≠ 28 → T'.1 52 j = T.1 52 j) ∧ T'.2 = T.2
theorem FJ.sm {X : List Nat} {T T' : SS} {P : Nat → Nat → Prop} (h : FJ X T T') (hx : ∀ k j, P k j → k ∉ X ∧ ¬ (k = 52 ∧ j = 28)) : Sm P T T' := fun k j p => by
  have q := hx k j p
  by_cases e : k = 52
  · subst e
    exact h.2.1 j (fun z => q.2 ⟨rfl, z⟩)
  · exact congrFun (h.1 k q.1 e) j
theorem shift_l {N : Nat} {T0 : SS} : ∀ (j i n : Nat) (T : SS), Fr [69] T0 T → (∀ q, T.1 69 q = if q + 214 < i then T0.1 69 (q + 214) else T0.1 69 q) → 214 ≤ i → i + j = 8560 → j < n → ∃ T2, fX12_keep_l13 N n (nI i) T = (lt (pj T2 52 28 ((gi T2 52 28) - 1)) fun T2 => fX12_keep_l54 N N 0 T2) ∧ Fr [69] T0 T2 ∧ ∀ q, q + 214 < 8560 → T2.1 69 q = T0.1 69 (q + 214) := by
  intro j
  induction j with
  | zero =>
    intro i n T fT hq _ hi hn
    obtain ⟨n, rfl⟩ : ∃ q, n = q + 1 := ⟨n - 1, by omega⟩
    have : i = 8560 := by omega
    subst this
    unfold fX12_keep_l13
    rw [if_pos (by decide)]
    exact ⟨T, rfl, fT, fun q h => by rw [hq q, if_pos h]⟩
  | succ j ih =>
    intro i n T fT hq h1 hi hn
    obtain ⟨n, rfl⟩ : ∃ q, n = q + 1 := ⟨n - 1, by omega⟩
    unfold fX12_keep_l13
    rw [if_neg (show ¬ (8560 : Int32) ≤ nI i from nI_ge (b := 8560) (by omega) (by omega)), show nI i - 214 = nI (i - 214) from pk_sub (b := 214) h1, ck_in (by omega) (by omega), ck_in (by omega) (by omega), lt_s9, lt_s9, nI_1, ga_nI (by omega)]
    refine ih (i + 1) n _ (fT.tr (Fr.pa (by decide))) (fun q => ?_) (by omega) (by omega) (by omega)
    rw [row_pa, if_pos rfl, nI_clamp (by omega), hq i, if_neg (by omega)]
    by_cases e : q = i - 214
    · rw [← e, pk_us, if_pos (show q + 214 < i + 1 by omega), show q + 214 = i by omega]
    · rw [pk_un e, hq q]
      by_cases e2 : q + 214 < i
      · rw [if_pos e2, if_pos (by omega)]
      · rw [if_neg e2, if_neg (by omega)]
theorem keep_l {N a : Nat} (ha : a < 40) {T0 : SS} (h28 : gi T0 52 28 = nI a) : ∀ (j i n : Nat) (T : SS), Fr [69] T0 T → (∀ q, T.1 69 q = if 214 * a ≤ q ∧ q < 214 * a + i then T0.1 67 (q - 214 * a) else T0.1 69 q) → i + j = 214 → j < n → ∃ T2, fX12_keep_l54 N n (nI i) T = some (pj T2 52 28 (nI (a + 1))) ∧ Fr [69] T0 T2 ∧ ∀ q, T2.1 69 q = if 214 * a ≤ q ∧ q < 214 * a + 214 then T0.1 67 (q - 214 * a) else T0.1 69 q := by
  intro j
  induction j with
  | zero =>
    intro i n T fT hq hi hn
    obtain ⟨n, rfl⟩ : ∃ q, n = q + 1 := ⟨n - 1, by omega⟩
    have : i = 214 := by omega
    subst this
    unfold fX12_keep_l54
    rw [if_pos (by decide), fT.gi (by decide), h28, nI_1]
    exact ⟨T, rfl, fT, hq⟩
  | succ j ih =>
    intro i n T fT hq hi hn
    obtain ⟨n, rfl⟩ : ∃ q, n = q + 1 := ⟨n - 1, by omega⟩
    unfold fX12_keep_l54
    rw [if_neg (show ¬ (214 : Int32) ≤ nI i from nI_ge (b := 214) (by omega) (by omega)), fT.gi (by decide), h28, show (214 : Int32) = nI 214 from rfl, pk_mul, nI_add, ck_in (by omega) (by omega), ck_in (by omega) (by omega), lt_s9, lt_s9, nI_1, ga_nI (by omega)]
    refine ih (i + 1) n _ (fT.tr (Fr.pa (by decide))) (fun q => ?_) (by omega) (by omega)
    rw [row_pa, if_pos rfl, nI_clamp (by omega), fT.row (k := 67) (by decide)]
    by_cases e : q = 214 * a + i
    · subst e
      rw [pk_us, if_pos (by omega)]
      exact congrArg (T0.1 67) (by omega)
    · rw [pk_un e, hq q]
      by_cases e2 : 214 * a ≤ q ∧ q < 214 * a + i
      · rw [if_pos e2, if_pos (by omega)]
      · rw [if_neg e2, if_neg (by omega)]
theorem m_keep {N a : Nat} (hN : 10000 ≤ N) {T : SS} (ha : a ≤ 40) (h28 : gi T 52 28 = nI a) : ∃ T2, fX12_keep N T = some T2 ∧ FJ [69] T T2 ∧ gi T2 52 28 = nI (min 40 (a + 1)) ∧ (∀ z, z < 214 → kM T2 (min 40 (a + 1)) 0 z = T.1 67 z) ∧ ∀ j z, j + 1 < min 40 (a + 1) → z < 214 → kM T2 (min 40 (a + 1)) (j + 1) z = kM T a j z := by
  unfold fX12_keep
  rw [h28]
  by_cases h40 : a = 40
  · subst h40
    rw [if_pos (by decide)]
    obtain ⟨T1, z1, z2, z3⟩ := shift_l (N := N) (8560 - 214) 214 N T Fr.rf (fun q => by rw [if_neg (by omega)]) (by omega) (by omega) (by omega)
    have z1' : fX12_keep_l13 N N 214 T = _ := z1
    have g : gi (pj T1 52 28 (nI 39)) 52 28 = nI 39 := rfl
    obtain ⟨T2, y1, y2, y3⟩ := keep_l (N := N) (a := 39) (by omega) g 214 0 N _ Fr.rf (fun q => by rw [if_neg (by omega)]) (by omega) (by omega)
    have y1' : fX12_keep_l54 N N 0 (pj T1 52 28 (nI 39)) = _ := y1
    rw [z1', lt_s9, z2.gi (by decide), h28, show nI 40 - 1 = nI 39 from rfl, y1']
    have e69 : (pj T1 52 28 (nI 39)).1 69 = T1.1 69 := rfl
    have e67 : (pj T1 52 28 (nI 39)).1 67 = T.1 67 := z2.row (by decide)
    refine ⟨_, rfl, ⟨fun k hk h52 => ?_, fun j hj => ?_, ?_⟩, rfl, fun z hz => ?_, fun j z hj hz => ?_⟩
    · rw [row_pj, if_neg h52, y2.row hk, row_pj, if_neg h52, z2.row hk]
    · rw [row_pj, if_pos rfl, pk_un hj, y2.row (by decide), row_pj, if_pos rfl, pk_un hj, z2.row (by decide)]
    · exact y2.2.trans z2.2
    · show (pj T2 52 28 (nI 40)).1 69 (214 * (min 40 (40 + 1) - 1 - 0) + z) = T.1 67 z
      rw [row_pj, if_neg (by decide), y3, if_pos (by omega), e67]
      exact congrArg (T.1 67) (by omega)
    · show (pj T2 52 28 (nI 40)).1 69 (214 * (min 40 (40 + 1) - 1 - (j + 1)) + z) = T.1 69 (214 * (40 - 1 - j) + z)
      rw [row_pj, if_neg (by decide), y3, if_neg (by omega), e69, z3 _ (by omega)]
      exact congrArg (T.1 69) (by omega)
  · rw [if_neg (show ¬ nI a = 40 from fun z => h40 ((nI_eq (b := 40) (by omega) (by omega)).mp z))]
    obtain ⟨T2, y1, y2, y3⟩ := keep_l (N := N) (a := a) (by omega) h28 214 0 N T Fr.rf (fun q => by rw [if_neg (by omega)]) (by omega) (by omega)
    have y1' : fX12_keep_l54 N N 0 T = _ := y1
    have em : min 40 (a + 1) = a + 1 := by omega
    rw [y1', em]
    refine ⟨_, rfl, ⟨fun k hk h52 => ?_, fun j hj => ?_, ?_⟩, rfl, fun z hz => ?_, fun j z hj hz => ?_⟩
    · rw [row_pj, if_neg h52, y2.row hk]
    · rw [row_pj, if_pos rfl, pk_un hj, y2.row (by decide)]
    · exact y2.2
    · show (pj T2 52 28 (nI (a + 1))).1 69 (214 * (a + 1 - 1 - 0) + z) = T.1 67 z
      rw [row_pj, if_neg (by decide), y3, if_pos (by omega)]
      exact congrArg (T.1 67) (by omega)
    · show (pj T2 52 28 (nI (a + 1))).1 69 (214 * (a + 1 - 1 - (j + 1)) + z) = T.1 69 (214 * (a - 1 - j) + z)
      rw [row_pj, if_neg (by decide), y3, if_neg (by omega)]
      exact congrArg (T.1 69) (by omega)
/-- the class's Memory: cell 24 and slots 5, 6 of cell 23 may differ -/
def FK (S S' : SS) : Prop := (∀ k, k ≠ 24 → k ≠ 23 → S'.1 k = S.1 k) ∧ (∀ j, j ≠ 5 → j ≠ 6 → S'.1 23 j = S.1 23 j) ∧ S'.2 = S.2
theorem FK.sm {S S' : SS} {P : Nat → Nat → Prop} (h : FK S S') (hx : ∀ k j, P k j → k ≠ 24 ∧ ¬ (k = 23 ∧ (j = 5 ∨ j = 6))) : Sm P S S' := fun k j p => by
  have q := hx k j p
  by_cases e : k = 23
  · subst e
    exact h.2.1 j (fun z => q.2 ⟨rfl, Or.inl z⟩) (fun z => q.2 ⟨rfl, Or.inr z⟩)
  · exact congrFun (h.1 k q.1 e) j
theorem k_ir : ∀ x, x < 40 → ir (nI x + 1) 40 = nI ((x + 1) % 40) ∧ ir (nI x + 40 - 1) 40 = nI ((x + 39) % 40) ∧ nI x * 33 = nI (x * 33) := by decide +kernel
theorem k_m40 : ∀ x, x ≤ 40 → mn 40 (nI x + 1) = nI (min 40 (x + 1)) := by decide +kernel
theorem c_keep {N nx a : Nat} {S : SS} (hx : nx < 40) (ha : a ≤ 40) (h5 : gi S 23 5 = nI nx) (h6 : gi S 23 6 = nI a) : ∃ S2, fX4_keep N S 18 = some S2 ∧ FK S S2 ∧ gi S2 23 5 = nI ((nx + 1) % 40) ∧ gi S2 23 6 = nI (min 40 (a + 1)) ∧ (∀ z, z < 33 → kC S2 ((nx + 1) % 40) 0 z = nowC S z) ∧ ∀ j z, j + 1 < 40 → z < 33 → kC S2 ((nx + 1) % 40) (j + 1) z = kC S nx j z := by
  obtain ⟨S1, z1, z2, z3⟩ := c_write (N := N) (q := 24) (p := nx * 33) (L := 1320) (S := S) (by decide) rfl (by omega) (by omega)
  unfold fX4_keep
  rw [h5, (k_ir nx hx).2.2, bd_s z1, lt_s9, lt_s9, z2.gi (by decide), h5, (k_ir nx hx).1]
  have g6 : gi (pj S1 23 5 (nI ((nx + 1) % 40))) 23 6 = nI a := (congrFun (z2.row (k := 23) (by decide)) 6).trans h6
  rw [g6, k_m40 a ha]
  refine ⟨_, rfl, ⟨fun k h24 h23 => ?_, fun j j5 j6 => ?_, z2.2⟩, rfl, rfl, fun z hz => ?_, fun j z hj hz => ?_⟩
  · rw [row_pj, if_neg h23, row_pj, if_neg h23, z2.row (by simp [h24])]
  · rw [row_pj, if_pos rfl, pk_un j6, row_pj, if_pos rfl, pk_un j5, z2.row (by decide)]
  · unfold kC
    rw [row_pj, if_neg (by decide), row_pj, if_neg (by decide), z3, if_pos (by omega)]
    exact congrArg (nowC S) (by omega)
  · unfold kC
    rw [row_pj, if_neg (by decide), row_pj, if_neg (by decide), z3, if_neg (by omega)]
    exact congrArg (S.1 24) (by omega)
/-- the latest kept one is of today -/
def JK (T : SS) : Prop := ∃ a, 1 ≤ a ∧ a ≤ 40 ∧ gi T 52 28 = nI a ∧ dayN (kM T a 0) = dayN (T.1 67)
theorem keeps {N E : Nat} (hN : 10000 ≤ N) {S T : SS} (h : RelE N E S T) : ∃ S' T', fX4_keep N S 18 = some S' ∧ fX12_keep N T = some T' ∧ RelE N E S' T' ∧ JK T' ∧ FK S S' ∧ FJ [69] T T' := by
  obtain ⟨ht, hm, hl, ha, hi, hs, hz⟩ := h
  have hE := hm.2.2.1
  obtain ⟨h0, nx, a, b1, b2, b3, b4, b5, b6, b7, b8⟩ := ha
  obtain ⟨S', c1, c2, c3, c4, c5, c6⟩ := c_keep (N := N) b1 b2 b3 b4
  obtain ⟨T', d1, d2, d3, d4, d5⟩ := m_keep hN b2 b5
  have e25 : S'.1 25 = S.1 25 := c2.1 25 (by decide) (by decide)
  have en : nowC S' = nowC S := by
    funext j
    unfold nowC
    rw [c2.1 19 (by decide) (by decide), c2.1 20 (by decide) (by decide), c2.1 21 (by decide) (by decide), c2.1 22 (by decide) (by decide), c2.1 18 (by decide) (by decide)]
  have e67 : T'.1 67 = T.1 67 := d2.1 67 (by decide) (by decide)
  have dj : ∀ j, j + 1 < min 40 (a + 1) → dayN (kM T' (min 40 (a + 1)) (j + 1)) = dayN (kM T a j) := fun j hj => day_c (d5 j 32 hj (by omega))
  have d0 : dayN (kM T' (min 40 (a + 1)) 0) = dayN (T.1 67) := day_c (d4 32 (by omega))
  have hst : ∀ j, j < min 40 (a + 1) → stE E (S'.1 25) (kC S' ((nx + 1) % 40) j) (kM T' (min 40 (a + 1)) j) := fun j hj => by
    rw [e25]
    cases j with
    | zero => exact stE_c hE (fun z hz => c5 z hz.2) (fun z hz => d4 z hz) h0
    | succ j => exact stE_c hE (fun z hz => c6 j z (by omega) hz.2) (fun z hz => d5 j z hj hz) (b6 j (by omega))
  refine ⟨S', T', c1, d1, ⟨rTape_c (c2.sm ?_) (d2.sm ?_) ht, rMill_c (c2.sm ?_) (d2.sm ?_) hm, rLaw_c (c2.sm ?_) (by rw [c2.2.2]) (d2.sm ?_) hl, ⟨by rw [en, e25, e67]; exact h0, (nx + 1) % 40, min 40 (a + 1), by omega, by omega, c3, c4, d3, hst, fun _ => by rw [e67, d0]; omega, ?_⟩, rImg_c (c2.sm ?_) (d2.sm ?_) hi, rSeen_c (c2.sm ?_) (d2.sm ?_) hs, rMisc_c (c2.sm ?_) (d2.sm ?_) hz⟩, ⟨min 40 (a + 1), by omega, by omega, d3, by rw [e67, d0]⟩, c2, d2⟩
  · intro k j p
    simp [tapeC] at p
    omega
  · intro k j p
    simp [tapeM] at p
    simp
    omega
  · intro k j p
    simp [millC] at p
    omega
  · intro k j p
    simp [millM] at p
    simp
    omega
  · intro k j p
    simp [lawC] at p
    omega
  · intro k j p
    simp [lawM] at p
    simp
    omega
  · intro j hj
    cases j with
    | zero =>
      rw [dj 0 hj, d0]
      exact b7 (by omega)
    | succ j =>
      rw [dj (j + 1) hj, dj j (by omega)]
      exact b8 j (by omega)
  · intro k j p
    simp [imgC] at p
    omega
  · intro k j p
    simp [imgM] at p
    simp
    omega
  · intro k j p
    simp [seenC] at p
    omega
  · intro k j p
    simp [seenM] at p
    simp
    omega
  · intro k j p
    simp [miscC] at p
    omega
  · intro k j p
    simp [miscM] at p
    simp
    omega
theorem refs {N E w : Nat} {S T : SS} (hw : w < 5) (h : RelE N E S T) : ∃ S' T', fX11_refuse N S (nI w) = some (S', -1) ∧ fX12_isRefused N T (nI w) = some (T', 1) ∧ RelE N E S' T' := by
  obtain ⟨ht, hm, hl, ha, hi, hs, hz⟩ := h
  unfold fX11_refuse fX12_isRefused fX12_isRefused_j15
  rw [if_neg (nI_pos (by omega)), if_neg (show ¬ (5 : Int32) ≤ nI w from nI_ge (b := 5) hw (by omega)), ck_in hw (by omega), ck_in hw (by omega), if_neg (nI_m1 (by omega)), ck_in hw (by omega), ck_in hw (by omega), lt_s9, lt_s9, if_neg (nI_m1 (by omega)), ga_nI (by omega), ga_nI (by omega)]
  refine ⟨_, _, rfl, rfl, rTape_c (sm_pa (by simp [tapeC])) (sm_pa (by simp [tapeM])) ht, rMill_c (sm_pa (by simp [millC])) (sm_pa (by simp [millM])) hm, rLaw_c (sm_pa (by simp [lawC])) rfl (sm_pa (by simp [lawM])) hl, rAct_c (sm_pa (by simp [actC])) (sm_pa (by simp [actM])) ha, rImg_c (sm_pa (by simp [imgC])) (sm_pa (by simp [imgM])) hi, rSeen_c (sm_pa (by simp [seenC])) (sm_pa (by simp [seenM])) hs, ⟨fun j hj => ?_, hz.2⟩⟩
  rw [row_pa, row_pa, if_pos rfl, if_pos rfl, nI_clamp (by omega), hz.1 w hw]
  by_cases e : j = w
  · subst e
    rw [pk_us, pk_us]
  · rw [pk_un e, pk_un e]
    exact hz.1 j hj
theorem ref_no {N : Nat} {T : SS} : fX12_isRefused N T (-1) = some (T, 0) := rfl
/-- an act: now alone has changed -/
theorem rel_act {N E : Nat} {S T S' T' : SS} (h : RelE N E S T) (fS : Fr [16, 17, 18, 19, 20, 21, 22] S S') (fT : Fr [61, 62, 67] T T') (hv : Lv E 18 S' (T'.1 67)) (hw : wfL E (T'.1 67)) (h32 : ∀ j, 32 ≤ j → T'.1 67 j = T.1 67 j) : RelE N E S' T' := by
  obtain ⟨ht, hm, hl, ha, hi, hs, hz⟩ := h
  have hE := hm.2.2.1
  have e4 : S'.1 18 4 = S.1 18 4 := hv.1.trans hm.1.2.2.symm
  refine ⟨rTape_c (Sm.fr fS ?_) (Sm.fr fT ?_) ht, rMill_c ?_ (Sm.fr fT ?_) hm, rLaw_c (Sm.fr fS ?_) (by rw [fS.2]) (Sm.fr fT ?_) hl, ?_, rImg_c (Sm.fr fS ?_) (Sm.fr fT ?_) hi, rSeen_c (Sm.fr fS ?_) (Sm.fr fT ?_) hs, rMisc_c (Sm.fr fS ?_) (Sm.fr fT ?_) hz⟩
  · intro k j p
    simp [tapeC] at p
    simp
    omega
  · intro k j p
    simp [tapeM] at p
    simp
    omega
  · intro k j p
    by_cases e : k = 18
    · subst e
      simp [millC] at p
      subst p
      exact e4
    · simp [millC] at p
      exact congrFun (fS.row (by simp; omega)) j
  · intro k j p
    simp [millM] at p
    simp
    omega
  · intro k j p
    simp [lawC] at p
    simp
    omega
  · intro k j p
    simp [lawM] at p
    simp
    omega
  · obtain ⟨h0, nx, a, b1, b2, b3, b4, b5, b6, b7, b8⟩ := ha
    have e25 : S'.1 25 = S.1 25 := fS.row (by decide)
    have ek : ∀ nx j, kC S' nx j = kC S nx j := fun nx j => by
      unfold kC
      rw [fS.row (k := 24) (by decide)]
    have em : ∀ a j, kM T' a j = kM T a j := fun a j => by
      unfold kM
      rw [fT.row (k := 69) (by decide)]
    have ed : dayN (T'.1 67) = dayN (T.1 67) := day_c (h32 32 (by omega))
    refine ⟨⟨now_of hv, hw, ?_⟩, nx, a, b1, b2, (fS.gi (by decide)).trans b3, (fS.gi (by decide)).trans b4, (fT.gi (by decide)).trans b5, fun j hj => ?_, fun h1 => ?_, fun j hj => ?_⟩
    · rw [e25]
      exact log_c (fun j h1 _ => h32 j h1) h0.2.2
    · rw [e25, ek, em]
      exact b6 j hj
    · rw [em, ed]
      exact b7 h1
    · rw [em, em]
      exact b8 j hj
  · intro k j p
    simp [imgC] at p
    simp
    omega
  · intro k j p
    simp [imgM] at p
    simp
    omega
  · intro k j p
    simp [seenC] at p
    simp
    omega
  · intro k j p
    simp [seenM] at p
    simp
    omega
  · intro k j p
    simp [miscC] at p
    simp
    omega
  · intro k j p
    simp [miscM] at p
    simp
    omega
