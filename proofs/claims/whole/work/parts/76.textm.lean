/-! fault and text of a mill -/
theorem tp_of {S T : SS} (h : rTape S T) : ∃ n tp, tpB n tp ∧ tpC n tp S ∧ tpM n tp T := by
  obtain ⟨n, h1, h2, h3, h4⟩ := h
  refine ⟨n, fun j => (S.1 2 j).toNatClampNeg, ⟨h1, fun j hj => ?_⟩, ⟨h2, fun j hj => ?_⟩, ⟨h3, fun j hj => ?_⟩⟩
  · obtain ⟨_, v, v1, v2, v3⟩ := h4 j hj
    dsimp only
    rw [v3, nI_clamp (by omega)]
    exact ⟨v1, v2⟩
  · obtain ⟨_, v, v1, v2, v3⟩ := h4 j hj
    show S.1 2 j = nI ((S.1 2 j).toNatClampNeg)
    rw [v3, nI_clamp (by omega)]
  · obtain ⟨w, v, v1, v2, v3⟩ := h4 j hj
    show T.1 53 j = nI ((S.1 2 j).toNatClampNeg)
    rw [← w, v3, nI_clamp (by omega)]
theorem rel_fp {N : Nat} {S T S' T' : SS} {P Q : Nat → Nat → Prop} (h : Rel N S T) (hS : FP P S S') (hT : FP Q T T') (hP : ∀ k j, allC k j → ¬ P k j) (hQ : ∀ k j, allM k j → ¬ Q k j) : Rel N S' T' := Rel_c (hS.sm hP) (by rw [hS.2]) (hT.sm hQ) h
theorem ml_allC : ∀ k j, allC k j → ¬ mlC k j := fun k j p q => by
  simp only [allC, tapeC, millC, lawC, actC, imgC, seenC, miscC] at p
  unfold mlC at q
  omega
theorem ml_allM : ∀ k j, allM k j → ¬ mlM k j := fun k j p q => by
  simp only [allM, tapeM, millM, lawM, actM, imgM, seenM, miscM] at p
  unfold mlM at q
  omega
theorem fault_m {N : Nat} (hN : 250 ≤ N) {S T : SS} (h : Rel N S T) : ∃ (r : Int32) (S' T' : SS), fX6_read N S = some (S', r) ∧ fX12_readMill N T = some (T', r) ∧ Rel N S' T' ∧ FP mlC S S' ∧ FP mlM T T' ∧ (r = -1 → mlE S' T') := by
  obtain ⟨E, ht, hm, hl, ha, hi, hs, hz⟩ := id h
  obtain ⟨n, tp, hb, hC, hM⟩ := tp_of ht
  obtain ⟨r, S2, T2, z1, z2, z3, z4, z5⟩ := millE hN hb hC hM
  exact ⟨r, S2, T2, z1, z2, rel_fp h z3 z4 ml_allC ml_allM, z3, z4, z5⟩
theorem m_take {N e : Nat} {T : SS} (hN : 300 ≤ N) (he : e ≤ 7) (h19 : gi T 52 19 = nI e) : ∃ T2, fX12_takeMill N T = some (T2, nI e) ∧ FP (fun k j => (k = 52 ∧ (j = 22 ∨ j = 42 ∨ j = 28 ∨ j = 44)) ∨ (65 ≤ k ∧ k ≤ 67)) T T2 ∧ gi T2 52 22 = nI e ∧ gi T2 52 42 = 0 ∧ gi T2 52 28 = 0 ∧ gi T2 52 44 = 0 ∧ (∀ k, k < 4 → T2.1 65 k = T.1 63 k) ∧ (∀ k, k < 21 → T2.1 66 k = T.1 64 k) ∧ (∀ d, d < e → T2.1 67 d = T.1 64 (3 * d) ∧ T2.1 67 (7 + d) = T.1 64 (3 * d + 2)) ∧ (∀ d, d < 7 → T2.1 67 (14 + d) = -1 ∧ T2.1 67 (21 + d) = -1) ∧ T2.1 67 31 = T.1 63 3 ∧ ∀ j, (28 ≤ j ∧ j < 214 ∧ j ≠ 31) → T2.1 67 j = 0 := by
  unfold fX12_takeMill
  rw [lt_s9, h19]
  have f1 : FP (fun k j => k = 52 ∧ j = 22) T (pj T 52 22 (nI e)) := FP.pj ⟨rfl, rfl⟩
  have e22 : gi (pj T 52 22 (nI e)) 52 22 = nI e := by
    rw [gi_pj]
    rfl
  revert f1 e22
  generalize pj T 52 22 (nI e) = T1
  intro f1 e22
  obtain ⟨T2, a1, a2, a3⟩ := m_t10 (N := N) (T0 := T1) 4 0 N T1 (by omega) (by omega) FP.rf (fun k hk => absurd hk (by omega))
  have a1' : fX12_takeMill_l10 N N 0 T1 = _ := a1
  obtain ⟨T3, b1, b2, b3⟩ := m_t35 (N := N) (T0 := T2) 21 0 N T2 (by omega) (by omega) FP.rf (fun k hk => absurd hk (by omega))
  have b1' : fX12_takeMill_l35 N N 0 T2 = _ := b1
  obtain ⟨T4, c1, c2, c3⟩ := m_t61 (N := N) (T0 := T3) 214 0 N T3 (by omega) (by omega) FP.rf (fun k hk => absurd hk (by omega))
  have c1' : fX12_takeMill_l61 N N 0 T3 = _ := c1
  have e224 : gi T4 52 22 = nI e := (c2.gi (by omega)).trans ((b2.gi (by omega)).trans ((a2.gi (by omega)).trans e22))
  obtain ⟨T5, d1, d2, d3⟩ := m_t83 (N := N) (T0 := T4) he e224 e 0 N T4 (by omega) (by omega) FP.rf (fun k hk => absurd hk (by omega))
  have d1' : fX12_takeMill_l83 N N 0 T4 = _ := d1
  obtain ⟨T6, g1, g2, g3⟩ := m_t128 (N := N) (T0 := T5) 7 0 N T5 (by omega) (by omega) FP.rf (fun k hk => absurd hk (by omega))
  have g1' : fX12_takeMill_l128 N N 0 T5 = _ := g1
  rw [a1', b1', c1', d1', g1']
  have e226 : gi T6 52 22 = nI e := (g2.gi (by omega)).trans ((d2.gi (by omega)).trans e224)
  have r63 : T1.1 63 = T.1 63 := f1.row (by intro j; omega)
  have r64 : T2.1 64 = T.1 64 := (a2.row (by intro j; omega)).trans (f1.row (by intro j; omega))
  have r66 : T4.1 66 = T3.1 66 := c2.row (by intro j; omega)
  have k65 : ∀ k, k < 4 → T6.1 65 k = T.1 63 k := fun k hk => by
    rw [g2.1 65 k (by omega), d2.1 65 k (by omega), c2.1 65 k (by omega), b2.1 65 k (by omega), a3 k hk, r63]
  have k66 : ∀ k, k < 21 → T6.1 66 k = T.1 64 k := fun k hk => by
    rw [g2.1 66 k (by omega), d2.1 66 k (by omega), r66, b3 k hk, r64]
  have x66 : ∀ k, k < 21 → T4.1 66 k = T.1 64 k := fun k hk => by
    rw [r66, b3 k hk, r64]
  rw [e226]
  have e31 : ∀ j, (pj (pj (pj (pa T6 67 31 (ga T6 65 3)) 52 42 0) 52 28 0) 52 44 0).1 67 j = upd (T6.1 67) 31 (T6.1 65 3) j := fun j => by
    rw [pj_ne (by decide), pj_ne (by decide), pj_ne (by decide), row_pa, if_pos rfl]
    rfl
  refine ⟨_, rfl, ?_, ?_, ?_, ?_, ?_, fun k hk => ?_, fun k hk => ?_, fun d hd => ?_, fun d hd => ?_, ?_, fun j hj => ?_⟩
  · have fa : FP (fun k j => (k = 52 ∧ (j = 22 ∨ j = 42 ∨ j = 28 ∨ j = 44)) ∨ (65 ≤ k ∧ k ≤ 67)) T T6 := (((((f1.mono (fun k j q => by omega)).tr (a2.mono (fun k j q => by omega))).tr (b2.mono (fun k j q => by omega))).tr (c2.mono (fun k j q => by omega))).tr (d2.mono (fun k j q => by omega))).tr (g2.mono (fun k j q => by omega))
    exact (((fa.tr (FP.pa (by omega))).tr (FP.pj (by omega))).tr (FP.pj (by omega))).tr (FP.pj (by omega))
  · rw [gi_ne (by decide), gi_ne (by decide), gi_ne (by decide)]
    exact e226
  · rw [gi_ne (by decide), gi_ne (by decide), gi_pj]
    rfl
  · rw [gi_ne (by decide), gi_pj]
    rfl
  · rw [gi_pj]
    rfl
  · rw [pj_ne (by decide), pj_ne (by decide), pj_ne (by decide), row_pa, if_neg (by decide), k65 k hk]
  · rw [pj_ne (by decide), pj_ne (by decide), pj_ne (by decide), row_pa, if_neg (by decide), k66 k hk]
  · rw [e31, e31, pk_un (by omega), pk_un (by omega), g2.1 67 d (by omega), g2.1 67 (7 + d) (by omega), (d3 d hd).1, (d3 d hd).2, x66 _ (by omega), x66 _ (by omega)]
    exact ⟨rfl, rfl⟩
  · rw [e31, e31, pk_un (by omega), pk_un (by omega)]
    exact g3 d hd
  · rw [e31, pk_us, k65 3 (by omega)]
  · rw [e31, pk_un (by omega), g2.1 67 j (by omega), d2.1 67 j (by omega)]
    exact c3 j (by omega)
theorem text_m {N : Nat} (hN : 300 ≤ N) {S T : SS} (h : Rel N S T) : ∃ (r : Int32) (S' T' : SS), fX11_text N S 0 = some (S', r) ∧ fX12_text N T 0 = some (T', r) ∧ Rel N S' T' := by
  obtain ⟨r, S2, T2, z1, z2, z3, z4, z5, z6⟩ := fault_m (show 250 ≤ N by omega) h
  unfold fX11_text fX12_text fX11_takeMill
  rw [if_pos rfl, if_pos rfl, b2_s z1, b2_s z2]
  by_cases hr : ¬ r = -1
  · rw [if_neg hr, if_neg hr]
    unfold fX12_text_j22
    rw [if_neg (by decide), b2_s rfl]
    exact ⟨-1, S2, T2, rfl, rfl, z3⟩
  have hr1 : r = -1 := Decidable.not_not.mp hr
  obtain ⟨e, e1, e2, e3, e4, e5, e6⟩ := z6 hr1
  rw [if_pos hr1, if_pos hr1, lt_s9]
  obtain ⟨E, ht, hm, hl, ha, hi, hs, hz⟩ := z3
  obtain ⟨S6, a1, a2, a3, a4⟩ := c_cpM (N := N) (S := S2)
  obtain ⟨S8, b1, b2, b3, b4, b5, b6, b7, b8, b9⟩ := c_begin (N := N) (S := S6) (by omega)
  rw [bd_s a1, bd_s b1]
  unfold fX4_forget
  simp only [lt_s9]
  rw [bd_s rfl, b2_s rfl]
  obtain ⟨T6, c1, c2, c3, c4, c5, c6, c7, c8, c9, c10, c11, c12⟩ := m_take (N := N) (T := pj T2 52 2 0) hN e2 (by
    rw [gi_ne (by decide)]
    exact e4)
  rw [b2_s c1]
  have t63 : (pj T2 52 2 0).1 63 = T2.1 63 := pj_ne (by decide)
  have t64 : (pj T2 52 2 0).1 64 = T2.1 64 := pj_ne (by decide)
  rw [t63] at c7 c11
  rw [t64] at c8 c9
  have fS : FP (fun k j => (k = 23 ∧ (j = 4 ∨ j = 5 ∨ j = 6)) ∨ (k = 40 ∧ j = 5) ∨ (k = 1 ∧ j = 1)) S8 (pj (pj (pj (pj (pj S8 23 6 0) 23 5 0) 23 4 0) 40 5 0) 1 1 0) := ((((FP.pj (by omega)).tr (FP.pj (by omega))).tr (FP.pj (by omega))).tr (FP.pj (by omega))).tr (FP.pj (by omega))
  have x4 : gi (pj (pj (pj (pj (pj S8 23 6 0) 23 5 0) 23 4 0) 40 5 0) 1 1 0) 23 4 = 0 := by
    unfold gi
    rw [pj_ne (by decide), pj_ne (by decide)]
    show gi (pj (pj (pj S8 23 6 0) 23 5 0) 23 4 0) 23 4 = 0
    rw [gi_pj]
    rfl
  have x5 : gi (pj (pj (pj (pj (pj S8 23 6 0) 23 5 0) 23 4 0) 40 5 0) 1 1 0) 23 5 = 0 := by
    unfold gi
    rw [pj_ne (by decide), pj_ne (by decide)]
    show gi (pj (pj (pj S8 23 6 0) 23 5 0) 23 4 0) 23 5 = 0
    rw [gi_ne (by decide), gi_pj]
    rfl
  have x6 : gi (pj (pj (pj (pj (pj S8 23 6 0) 23 5 0) 23 4 0) 40 5 0) 1 1 0) 23 6 = 0 := by
    unfold gi
    rw [pj_ne (by decide), pj_ne (by decide)]
    show gi (pj (pj (pj S8 23 6 0) 23 5 0) 23 4 0) 23 6 = 0
    rw [gi_ne (by decide), gi_ne (by decide), gi_pj]
    rfl
  have x40 : gi (pj (pj (pj (pj (pj S8 23 6 0) 23 5 0) 23 4 0) 40 5 0) 1 1 0) 40 5 = 0 := by
    unfold gi
    rw [pj_ne (by decide)]
    show gi (pj (pj (pj (pj S8 23 6 0) 23 5 0) 23 4 0) 40 5 0) 40 5 = 0
    rw [gi_pj]
    rfl
  have x11 : gi (pj (pj (pj (pj (pj S8 23 6 0) 23 5 0) 23 4 0) 40 5 0) 1 1 0) 1 1 = 0 := by
    rw [gi_pj]
    rfl
  revert fS x4 x5 x6 x40 x11
  generalize (pj (pj (pj (pj (pj S8 23 6 0) 23 5 0) 23 4 0) 40 5 0) 1 1 0) = S9
  intro fS x4 x5 x6 x40 x11
  have F : FP (fun k j => (3 ≤ k ∧ k ≤ 6) ∨ (18 ≤ k ∧ k ≤ 22) ∨ (k = 23 ∧ (j = 4 ∨ j = 5 ∨ j = 6)) ∨ (k = 40 ∧ j = 5) ∨ (k = 1 ∧ j = 1)) S2 S9 := ((a2.mono (fun k j q => by omega)).tr (b2.mono (fun k j q => by omega))).tr (fS.mono (fun k j q => by omega))
  have G : FP (fun k j => (k = 52 ∧ (j = 22 ∨ j = 42 ∨ j = 28 ∨ j = 44 ∨ j = 2)) ∨ (65 ≤ k ∧ k ≤ 67)) T2 T6 := (FP.pj (by omega)).tr (c2.mono (fun k j q => by omega))
  have g3 : ∀ i, i < 5 → gi S9 3 i = gi S2 8 i := fun i hi => (fS.gi (by omega)).trans ((b2.gi (by omega)).trans (a3 i hi))
  have s4 : ∀ d, d < 7 → S9.1 4 d = S2.1 9 d ∧ S9.1 5 d = S2.1 10 d ∧ S9.1 6 d = S2.1 11 d := fun d hd => by
    rw [fS.1 4 d (by omega), fS.1 5 d (by omega), fS.1 6 d (by omega), b2.1 4 d (by omega), b2.1 5 d (by omega), b2.1 6 d (by omega)]
    exact a4 d hd
  have g30 : gi S9 3 0 = nI e := (g3 0 (by omega)).trans e3
  rw [g30]
  have sE : ∀ k, k < 4 → ∃ v, loK true k ≤ v ∧ v ≤ hiK true k ∧ gi S2 8 (k + 1) = nI v ∧ T2.1 63 k = nI v := fun k hk => by
    obtain ⟨v, v1, v2, v3, v4⟩ := e5 k hk
    have v4' : T2.1 63 (0 + k) = nI v := v4
    rw [Nat.zero_add] at v4'
    exact ⟨v, v1, v2, v3, v4'⟩
  have tE : ∀ d, d < e → ∀ k, k < 3 → ∃ v, loK false k ≤ v ∧ v ≤ hiK false k ∧ S2.1 (9 + k) d = nI v ∧ T2.1 64 (3 * d + k) = nI v := fun d hd k hk => e6 d hd k hk
  have g184 : gi S9 18 4 = nI e := (fS.gi (by omega)).trans (b3.trans ((a3 0 (by omega)).trans e3))
  have n19 : ∀ d, d < 7 → S9.1 19 d = S2.1 9 d ∧ S9.1 20 d = S2.1 11 d ∧ S9.1 21 d = -1 ∧ S9.1 22 d = -1 := fun d hd => by
    rw [fS.1 19 d (by omega), fS.1 20 d (by omega), fS.1 21 d (by omega), fS.1 22 d (by omega), (b9 d hd).1, (b9 d hd).2.1, (a4 d hd).1, (a4 d hd).2.2]
    exact ⟨rfl, rfl, (b9 d hd).2.2.1, (b9 d hd).2.2.2⟩
  obtain ⟨cv, cv1, cv2, cv3, cv4⟩ := sE 3 (by omega)
  have hcv : cv ≤ 99 := cv2
  have g188 : gi S9 18 8 = nI cv := (fS.gi (by omega)).trans (b7.trans ((a3 4 (by omega)).trans cv3))
  refine ⟨nI e, S9, T6, rfl, rfl, e, ?_, ?_, ?_, ?_, ?_, ?_, ?_⟩
  · refine ⟨0, by omega, x11, (c2.gi (by omega)).trans (by rw [gi_pj]; rfl), fun j hj => absurd hj (by omega)⟩
  · refine ⟨⟨g30, c3, g184⟩, Or.inr e1, e2, fun _ => ⟨?_, ?_, ?_, fun d hd => ⟨?_, ?_, ?_⟩⟩⟩
    · obtain ⟨v, v1, v2, v3, v4⟩ := sE 0 (by omega)
      exact ⟨v, v2, (g3 1 (by omega)).trans v3, by rw [c7 0 (by omega)]; exact v4⟩
    · obtain ⟨v, v1, v2, v3, v4⟩ := sE 1 (by omega)
      exact ⟨v, v2, (g3 2 (by omega)).trans v3, by rw [c7 1 (by omega)]; exact v4⟩
    · obtain ⟨v, v1, v2, v3, v4⟩ := sE 2 (by omega)
      exact ⟨v, v1, v2, (g3 3 (by omega)).trans v3, by rw [c7 2 (by omega)]; exact v4⟩
    · obtain ⟨v, v1, v2, v3, v4⟩ := tE d hd 0 (by omega)
      exact ⟨v, v2, by rw [(s4 d (by omega)).1]; exact v3, by rw [c8 _ (by omega)]; exact v4⟩
    · obtain ⟨v, v1, v2, v3, v4⟩ := tE d hd 1 (by omega)
      exact ⟨v, v1, v2, by rw [(s4 d (by omega)).2.1]; exact v3, by rw [c8 _ (by omega)]; exact v4⟩
    · obtain ⟨v, v1, v2, v3, v4⟩ := tE d hd 2 (by omega)
      exact ⟨v, v1, v2, by rw [(s4 d (by omega)).2.2]; exact v3, by rw [c8 _ (by omega)]; exact v4⟩
  · refine rLaw_c (F.sm (fun k j p q => ?_)) (by rw [F.2]) (G.sm (fun k j p q => ?_)) hl
    · unfold lawC at p
      omega
    · unfold lawM at p
      omega
  · have hbh : ∀ d, d < e → T6.1 67 (14 + d) = -1 := fun d hd => (c10 d (by omega)).1
    have hah : ∀ d, d < e → T6.1 67 (21 + d) = -1 := fun d hd => (c10 d (by omega)).2
    have z28 : T6.1 67 28 = 0 := c12 28 (by omega)
    have z29 : T6.1 67 29 = 0 := c12 29 (by omega)
    have z30 : T6.1 67 30 = 0 := c12 30 (by omega)
    have z32 : T6.1 67 32 = 0 := c12 32 (by omega)
    have z33 : T6.1 67 33 = 0 := c12 33 (by omega)
    have z31 : T6.1 67 31 = nI cv := c11.trans cv4
    have dN : dayN (T6.1 67) = 0 := by
      unfold dayN
      rw [z32]
      rfl
    refine ⟨⟨fun j hj => ?_, ⟨fun d hd => ⟨?_, ?_⟩, ⟨(List.range e).map (fun d => [d]), ⟨?_, fun d => ?_, fun t ht => ?_⟩, fun t ht a b hat hbt => ?_⟩, ⟨0, Nat.two_pow_pos e, z28⟩, ⟨0, by omega, z29⟩, ⟨0, by omega, z30⟩, ⟨cv, by omega, z31⟩, ⟨0, by omega, z32⟩⟩, ⟨?_, fun i w hi => ?_⟩⟩, 0, 0, by omega, by omega, x5, x6, c5, fun j hj => absurd hj (by omega), fun hj => absurd hj (by omega), fun j hj => absurd hj (by omega)⟩
    · have hj2 := hj.2
      unfold nowC
      by_cases q1 : j < 7
      · have hje : j < e := by
          have := hj.1 (by omega)
          rw [Nat.mod_eq_of_lt q1] at this
          exact this
        rw [if_pos q1, (n19 j q1).1, (c9 j hje).1]
        obtain ⟨v, v1, v2, v3, v4⟩ := tE j hje 0 (by omega)
        have v3' : S2.1 9 j = nI v := v3
        have v4' : T2.1 64 (3 * j) = nI v := v4
        rw [v3', v4']
      · by_cases q2 : j < 14
        · have hje : j - 7 < e := by
            have := hj.1 (by omega)
            omega
          rw [if_neg q1, if_pos q2, (n19 (j - 7) (by omega)).2.1]
          have e7 := (c9 (j - 7) hje).2
          rw [show 7 + (j - 7) = j by omega] at e7
          rw [e7]
          obtain ⟨v, v1, v2, v3, v4⟩ := tE (j - 7) hje 2 (by omega)
          have v3' : S2.1 11 (j - 7) = nI v := v3
          rw [v3', v4]
        · by_cases q3 : j < 21
          · have e7 := (c10 (j - 14) (by omega)).1
            rw [show 14 + (j - 14) = j by omega] at e7
            rw [if_neg q1, if_neg q2, if_pos q3, (n19 (j - 14) (by omega)).2.2.1, e7]
          · by_cases q4 : j < 28
            · have e7 := (c10 (j - 21) (by omega)).2
              rw [show 21 + (j - 21) = j by omega] at e7
              rw [if_neg q1, if_neg q2, if_neg q3, if_pos q4, (n19 (j - 21) (by omega)).2.2.2, e7]
            · rw [if_neg q1, if_neg q2, if_neg q3, if_neg q4]
              have h185 : S9.1 18 5 = 0 := (fS.gi (by omega)).trans b4
              have h186 : S9.1 18 6 = 0 := (fS.gi (by omega)).trans b5
              have h187 : S9.1 18 7 = 0 := (fS.gi (by omega)).trans b6
              have h189 : S9.1 18 9 = 0 := (fS.gi (by omega)).trans b8
              have h188 : S9.1 18 8 = nI cv := g188
              rcases (by omega : j = 28 ∨ j = 29 ∨ j = 30 ∨ j = 31 ∨ j = 32) with rfl | rfl | rfl | rfl | rfl
              · rw [z28]
                exact h185
              · rw [z29]
                exact h186
              · rw [z30]
                exact h187
              · rw [z31]
                exact h188
              · rw [z32]
                exact h189
    · obtain ⟨v, v1, v2, v3, v4⟩ := tE d hd 0 (by omega)
      exact ⟨v, v2, by rw [(c9 d hd).1]; exact v4⟩
    · obtain ⟨v, v1, v2, v3, v4⟩ := tE d hd 2 (by omega)
      exact ⟨v, v1, v2, by rw [(c9 d hd).2]; exact v4⟩
    · have fl : ((List.range e).map (fun d => [d])).flatten = List.range e := by
        induction List.range e with
        | nil => rfl
        | cons a l ih =>
          rw [List.map_cons, List.flatten_cons, ih]
          rfl
      rw [fl]
      exact List.nodup_range
    · have fl : ((List.range e).map (fun d => [d])).flatten = List.range e := by
        induction List.range e with
        | nil => rfl
        | cons a l ih =>
          rw [List.map_cons, List.flatten_cons, ih]
          rfl
      rw [fl]
      exact List.mem_range
    · obtain ⟨d, hd, rfl⟩ := List.mem_map.mp ht
      have hd' := List.mem_range.mp hd
      refine ⟨hbh d hd', fun x hx => ?_⟩
      cases hx
      exact hah d hd'
    · obtain ⟨d, hd, rfl⟩ := List.mem_map.mp ht
      rw [List.mem_singleton.mp hat, List.mem_singleton.mp hbt]
    · rw [dN, z33]
      rfl
    · rw [dN] at hi
      omega
  · refine ⟨Or.inl x4, c6.trans x4.symm, fun z => ?_⟩
    rw [x4] at z
    exact absurd z (by decide)
  · exact ⟨0, by omega, x40, c4, fun j hj => absurd hj (by omega)⟩
  · refine rMisc_c (F.sm (fun k j p q => ?_)) (G.sm (fun k j p q => ?_)) hz
    · unfold miscC at p
      omega
    · unfold miscM at p
      omega
