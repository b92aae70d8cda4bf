/-! blankets: the calls -/
theorem lg_bd {E : Nat} {m : Nat → Int32} (hE : E ≤ 7) (hw : wfL E m) {d : Nat} (hd : d < E) : 1 ≤ lgF m d ∧ lgF m d ≤ 140 := by
  obtain ⟨h1, h2, h3, _⟩ := wf_tw hE hw hd
  have e : lgF m d = sumF (fun e => if e ∈ tw m d then lnF m e else 0) E := (sumF_t (E := E) (lnF m) _ h1.2.2.1 h1.2.2.2).symm
  have hb := sumF_le 20 E (fun e => if e ∈ tw m d then lnF m e else 0) (fun i hi => by
    have := (lnF_eq hw hi).2
    split <;> omega)
  have hg := sumF_ge E (fun e => if e ∈ tw m d then lnF m e else 0) d hd
  have hl := (lnF_eq hw hd).2
  simp only [h2, if_true] at hg
  omega
theorem m_zero {N : Nat} {w x2 : Int32} : ∀ (j b n : Nat) (T : SS), (∀ c, c < b → T.1 73 c = 0) → b + j = 7 → j < n → ∃ T2, fX12_blankets_l113 N n w x2 (nI b) T = (if x2 = 0 then fX12_blankets_j149 N x2 (pj T2 52 38 8) else bd (fX12_tryLay N 10 (pj T2 52 38 8) 0 0 w) fun T5 => fX12_blankets_j149 N x2 T5) ∧ Fr [73] T T2 ∧ ∀ c, c < 7 → T2.1 73 c = 0 := by
  intro j
  induction j with
  | zero =>
    intro b n T h hb hn
    obtain ⟨n, rfl⟩ : ∃ q, n = q + 1 := ⟨n - 1, by omega⟩
    have : b = 7 := by omega
    subst this
    unfold fX12_blankets_l113
    rw [if_pos (by decide), lt_s9]
    exact ⟨T, rfl, Fr.rf, h⟩
  | succ j ih =>
    intro b n T h hb hn
    obtain ⟨n, rfl⟩ : ∃ q, n = q + 1 := ⟨n - 1, by omega⟩
    unfold fX12_blankets_l113
    rw [if_neg (show ¬ (7 : Int32) ≤ nI b from nI_ge (b := 7) (by omega) (by omega)), ck_in (by omega) (by omega), lt_s9, lt_s9, nI_1]
    obtain ⟨T2, z1, z2, z3⟩ := ih (b + 1) n (pa T 73 (nI b) 0) (fun c hc => by
      rw [row_pa, if_pos rfl, nI_clamp (by omega)]
      by_cases q : c = b
      · rw [q, pk_us]
      · rw [pk_un q]
        exact h c (by omega)) (by omega) (by omega)
    exact ⟨T2, z1, (Fr.pa (by decide)).tr z2, z3⟩
/-- one piece is too long: the reference goes on and says none -/
theorem m_bad {E N : Nat} {T0 : SS} {w : Int32} (hN : 12 ≤ N) (hE : E ≤ 7) (h22 : gi T0 52 22 = nI E) (hw : wfL E (T0.1 67)) : ∀ (j i n K : Nat) (T : SS), FT [72, 73] T0 T → gi T 52 37 = nI K → K ≤ i → i + j = E → j < n → ∃ T2, fX12_blankets_l29 N n w 0 (nI i) T = some (T2, -1) ∧ FT [72, 73] T0 T2 := by
  intro j
  induction j with
  | zero =>
    intro i n K T fT h37 hK hi hn
    obtain ⟨n, rfl⟩ : ∃ q, n = q + 1 := ⟨n - 1, by omega⟩
    have e22 : gi T 52 22 = nI E := (fT.sl (by decide) (by unfold scj; omega)).trans h22
    unfold fX12_blankets_l29
    rw [e22, if_pos (nI_le (by omega) (by omega))]
    obtain ⟨T2, z1, z2, z3⟩ := m_zero (N := N) (w := w) (x2 := 0) 7 0 N T (fun c hc => by omega) (by omega) (by omega)
    have z1' : fX12_blankets_l113 N N w 0 0 T = _ := z1
    rw [z1', if_pos rfl]
    unfold fX12_blankets_j149
    rw [if_pos rfl]
    exact ⟨_, rfl, (fT.tr ((FT.of z2).mono (by decide))).tr (FT.pj (by unfold scj; omega))⟩
  | succ j ih =>
    intro i n K T fT h37 hK hi hn
    obtain ⟨n, rfl⟩ : ∃ q, n = q + 1 := ⟨n - 1, by omega⟩
    have hi' : i < E := by omega
    have e22 : gi T 52 22 = nI E := (fT.sl (by decide) (by unfold scj; omega)).trans h22
    have e67 : T.1 67 = T0.1 67 := fT.row (by decide) (by decide)
    have hwT : wfL E (T.1 67) := by rw [e67]; exact hw
    unfold fX12_blankets_l29
    rw [e22, if_neg (nI_ge (by omega) (by omega)), bd_s (m_sold hE hwT hi')]
    simp only [lt_s9, nI_1]
    cases hs : sdF (T.1 67) i
    · rw [ifi0, a21, ck_in (by omega) (by omega), ga_nI (by omega)]
      by_cases hq : T.1 67 (21 + i) = -1
      · rw [if_pos hq, bd_s (m_len (by omega) hE hwT hi'), h37, ck_in (by omega) (by omega), if_pos trivial]
        unfold fX12_blankets_j93
        rw [lt_s9, lt_s9, nI_1]
        have e37 : gi (pa T 72 (nI K) (nI (lgF (T.1 67) i))) 52 37 = nI K := h37
        rw [e37, nI_1]
        exact ih (i + 1) n (K + 1) _ ((fT.tr (FT.of (Fr.pa (by decide)))).tr (FT.pj (by unfold scj; omega))) (by rw [gi_pj]; rfl) (by omega) (by omega) (by omega)
      · rw [if_neg hq]
        exact ih (i + 1) n K T fT h37 (by omega) (by omega) (by omega)
    · rw [ifi1]
      exact ih (i + 1) n K T fT h37 (by omega) (by omega) (by omega)
theorem blk {E N w : Nat} {S0 T0 : SS} (hN : 200 ≤ N) (hE : E ≤ 7) (hw140 : w ≤ 140) (hw1 : 1 ≤ w) (hv : Lv E 18 S0 (T0.1 67)) (hw : wfL E (T0.1 67)) (h22 : gi T0 52 22 = nI E) : ∀ (j i n K : Nat) (S T : SS) (p : Nat → Nat), Fr [38, 39] S0 S → FT [72, 73] T0 T → gi T 52 37 = nI K → K ≤ i → (∀ x, x < K → 1 ≤ p x ∧ p x ≤ w) → (∀ x, x < K → S.1 39 x = nI (p x) ∧ T.1 72 x = nI (p x)) → i + j = E → j < n → ∃ r S2 T2, fX0_fewestBlankets_l4 N n (nI w) (nI K) (nI i) S = some (S2, r) ∧ fX12_blankets_l29 N n (nI w) 1 (nI i) T = some (T2, r) ∧ Fr [38, 39] S0 S2 ∧ FT [72, 73] T0 T2 := by
  have k1 : ∀ x, x ∈ ([38, 39] : List Nat) → x < 18 ∨ 18 + 4 < x := by decide
  intro j
  induction j with
  | zero =>
    intro i n K S T p fS fT h37 hK hp h39 hi hn
    obtain ⟨n, rfl⟩ : ∃ q, n = q + 1 := ⟨n - 1, by omega⟩
    have e22 : gi T 52 22 = nI E := (fT.sl (by decide) (by unfold scj; omega)).trans h22
    have hvS := hv.f fS k1
    have hK7 : K ≤ 7 := by omega
    unfold fX0_fewestBlankets_l4 fX12_blankets_l29
    rw [hvS.1, e22, if_pos (nI_le (by omega) (by omega)), if_pos (nI_le (by omega) (by omega))]
    obtain ⟨S2, φ, x1, x2, x3⟩ := c_dp (N := N) hN hK7 hw140 hp (fun x hx => (h39 x hx).1)
    obtain ⟨T2, z1, z2, z3⟩ := m_zero (N := N) (w := nI w) (x2 := 1) 7 0 N T (fun c hc => by omega) (by omega) (by omega)
    have z1' : fX12_blankets_l113 N N (nI w) 1 0 T = _ := z1
    have l0 : ∀ b, ldS p (fun _ => 0) 0 b = 0 := fun b => rfl
    obtain ⟨T3, F', y1, y2, y3, y4, y5, y6, y7, y8⟩ := m_lay (K := K) (N := N) (w := w) (p := p) (by omega) hK7 hw140 hp K 10 (pj T2 52 38 8) 0 0 8 (fun _ => 0) (by omega) (by omega) (by omega) (by
      rw [gi_ne (by omega)]
      show T2.1 52 37 = nI K
      rw [z2.row (by decide)]
      exact h37) (fun x hx => by
      show T2.1 72 x = nI (p x)
      rw [z2.row (by decide)]
      exact (h39 x hx).2) (fun b hb => by
      rw [l0]
      exact z3 b hb) (fun x hx => absurd hx (by omega)) (fun b => by rw [l0]; omega) (by rw [gi_pj]; rfl) (by omega)
    have y1' : fX12_tryLay N 10 (pj T2 52 38 8) 0 0 (nI w) = some T3 := y1
    rw [b2_s x1, z1', if_neg n10, bd_s y1']
    unfold fX12_blankets_j149
    rw [if_neg n10, y5]
    obtain ⟨d1, d2, d3⟩ := dp_min hK7 hw140 hp x3
    have hF : F' = φ (2 ^ K - 1) / 1000 := by
      obtain ⟨f, hf⟩ := d1
      have a1 := y8 f (fun _ => 0) _ hf (fun x hx => absurd hx (by omega)) (fun x y hx => absurd hx (by omega)) (fun x hx => absurd hx (by omega))
      have a2 := y8 (fun x => x) (fun _ => 0) K d3 (fun x hx => absurd hx (by omega)) (fun x y hx => absurd hx (by omega)) (fun x hx => absurd hx (by omega))
      rcases y7 with y7 | ⟨g, hg⟩
      · omega
      · have a3 := d2 g F' hg
        omega
    rw [hF]
    exact ⟨_, S2, T3, rfl, rfl, fS.tr (x2.mono (by decide)), ((fT.tr ((FT.of z2).mono (by decide))).tr (FT.pj (by unfold scj; omega))).tr (y2.mono (by decide))⟩
  | succ j ih =>
    intro i n K S T p fS fT h37 hK hp h39 hi hn
    obtain ⟨n, rfl⟩ : ∃ q, n = q + 1 := ⟨n - 1, by omega⟩
    have hi' : i < E := by omega
    have e22 : gi T 52 22 = nI E := (fT.sl (by decide) (by unfold scj; omega)).trans h22
    have hvS := hv.f fS k1
    have e67 : T.1 67 = T0.1 67 := fT.row (by decide) (by decide)
    have hwT : wfL E (T.1 67) := by rw [e67]; exact hw
    have ms := m_sold (N := N) hE hwT hi'
    have ml := m_len (N := N) (by omega) hE hwT hi'
    rw [e67] at ms ml
    unfold fX0_fewestBlankets_l4 fX12_blankets_l29
    rw [hvS.1, e22, if_neg (nI_ge (by omega) (by omega)), if_neg (nI_ge (by omega) (by omega)), bd_s (c_sold hE hvS hw hi'), bd_s ms]
    simp only [lt_s9, nI_1]
    have skip : ∃ r S2 T2, fX0_fewestBlankets_l4 N n (nI w) (nI K) (nI (i + 1)) S = some (S2, r) ∧ fX12_blankets_l29 N n (nI w) 1 (nI (i + 1)) T = some (T2, r) ∧ Fr [38, 39] S0 S2 ∧ FT [72, 73] T0 T2 := ih (i + 1) n K S T p fS fT h37 (by omega) hp h39 (by omega) (by omega)
    cases hs : sdF (T0.1 67) i
    · rw [ifi0, ifi0, a21, ck_in (by omega) (by omega), ck_in (by omega) (by omega), ga_nI (by omega), ga_nI (by omega), (hvS.2.1 i hi').2.2.2, e67]
      by_cases hq : T0.1 67 (21 + i) = -1
      · have hb := lg_bd hE hw hi'
        rw [if_pos hq, if_pos hq, bd_s (c_tale (by omega) hE hvS hw hi'), bd_s (c_lent (by omega) hE hvS hw hi'), bd_s ml, h37, ck_in (by omega) (by omega), ck_in (by omega) (by omega), ck_in (by omega) (by omega), if_neg n10]
        have g39 : ga (pa S 39 (nI K) (nI (lgF (T0.1 67) i))) 39 (nI K) = nI (lgF (T0.1 67) i) := by
          rw [ga_pa]
          simp
        have g37 : gi (pa T 72 (nI K) (nI (lgF (T0.1 67) i))) 52 37 = nI K := h37
        have g72 : ga (pa T 72 (nI K) (nI (lgF (T0.1 67) i))) 72 (nI K) = nI (lgF (T0.1 67) i) := by
          rw [ga_pa]
          simp
        rw [g39, g37, g72, ck_in (by omega) (by omega)]
        have fS2 : Fr [38, 39] S0 (pa S 39 (nI K) (nI (lgF (T0.1 67) i))) := fS.tr (Fr.pa (by decide))
        have fT2 : FT [72, 73] T0 (pa T 72 (nI K) (nI (lgF (T0.1 67) i))) := fT.tr (FT.of (Fr.pa (by decide)))
        by_cases hc : lgF (T0.1 67) i ≤ w
        · rw [if_pos (nI_le hc (by omega)), if_neg (nI_nlt (by omega) (by omega)), nI_1]
          refine ih (i + 1) n (K + 1) _ _ (fun x => if x = K then lgF (T0.1 67) i else p x) fS2 (fT2.tr (FT.pj (by unfold scj; omega))) (by rw [gi_pj]; rfl) (by omega) (fun x hx => ?_) (fun x hx => ?_) (by omega) (by omega)
          · by_cases q : x = K
            · rw [if_pos q]
              omega
            · rw [if_neg q]
              exact hp x (by omega)
          · show (pa S 39 (nI K) (nI (lgF (T0.1 67) i))).1 39 x = _ ∧ (pa T 72 (nI K) (nI (lgF (T0.1 67) i))).1 72 x = _
            rw [row_pa, row_pa, if_pos rfl, if_pos rfl, nI_clamp (by omega)]
            by_cases q : x = K
            · rw [if_pos q, q, pk_us, pk_us]
              exact ⟨rfl, rfl⟩
            · rw [if_neg q, pk_un q, pk_un q]
              exact h39 x (by omega)
        · rw [if_neg (nI_ge (by omega) (by omega)), if_pos (nI_lt (by omega) (by omega))]
          unfold fX12_blankets_j93
          rw [lt_s9, lt_s9, g37, nI_1, nI_1]
          obtain ⟨T2, z1, z2⟩ := m_bad (E := E) (N := N) (T0 := T0) (w := nI w) (by omega) hE h22 hw j (i + 1) n (K + 1) (pj (pa T 72 (nI K) (nI (lgF (T0.1 67) i))) 52 37 (nI (K + 1))) (fT2.tr (FT.pj (by unfold scj; omega))) (by rw [gi_pj]; rfl) (by omega) (by omega) (by omega)
          exact ⟨-1, _, T2, rfl, z1, fS2, z2⟩
      · rw [if_neg hq, if_neg hq]
        exact skip
    · rw [ifi1, ifi1]
      exact skip
theorem inW {N : Nat} (x : Int32) : (fX12_in N x 1 140 = some 0 ∧ (x < 1 ∨ (¬ x < 1 ∧ ¬ x ≤ 140))) ∨ ∃ w, 1 ≤ w ∧ w ≤ 140 ∧ x = nI w ∧ fX12_in N x 1 140 = some 1 ∧ ¬ x < 1 ∧ x ≤ 140 := by
  have e1 : (1 : Int32).toInt = 1 := by decide
  have e2 : (140 : Int32).toInt = 140 := by decide
  unfold fX12_in
  by_cases h1 : x < 1
  · rw [if_pos h1]
    exact Or.inl ⟨rfl, Or.inl h1⟩
  · rw [if_neg h1]
    by_cases h2 : 140 < x
    · rw [if_pos h2]
      refine Or.inl ⟨rfl, Or.inr ⟨h1, fun z => ?_⟩⟩
      rw [Int32.lt_iff_toInt_lt] at h2
      rw [Int32.le_iff_toInt_le] at z
      omega
    · rw [if_neg h2]
      have h3 := h1
      have h4 := h2
      rw [Int32.lt_iff_toInt_lt] at h3 h4
      refine Or.inr ⟨x.toInt.toNat, by omega, by omega, ?_, rfl, h1, ?_⟩
      · apply Int32.toInt_inj.mp
        rw [nI_toInt (by omega)]
        omega
      · rw [Int32.le_iff_toInt_le]
        omega
theorem s_blankets {N : Nat} (hN : 200 ≤ N) {S T : SS} (h : Rel N S T) (a1 : Int32) : ∃ (r : Int32) (S' T' : SS), (fX11_blankets N S a1 = some (S', r)) ∧ (fX12_blankets N T a1 = some (T', r)) ∧ Rel N S' T' := by
  obtain ⟨E, ht, hm, hl, ha, hi, hs, hz⟩ := id h
  have hc := cx_of hm ha
  obtain ⟨hE, _, hv, hw⟩ := id hc
  unfold fX11_blankets fX12_blankets
  rcases there2 (N := N) hm with ⟨_, e1, e2⟩ | ⟨hp, e1, e2⟩
  · rw [bd_s e1, if_pos rfl, if_pos e2]
    exact ⟨_, S, T, rfl, rfl, h⟩
  rw [bd_s e1, if_neg n10, if_neg e2]
  rcases inW (N := N) a1 with ⟨q1, q2⟩ | ⟨w, w1, w2, rfl, q1, q2, q3⟩
  · rw [bd_s q1, if_pos rfl]
    rcases q2 with q2 | ⟨q2, q3⟩
    · rw [if_pos q2]
      exact ⟨_, S, T, rfl, rfl, h⟩
    · rw [if_neg q2, if_neg q3]
      exact ⟨_, S, T, rfl, rfl, h⟩
  rw [bd_s q1, if_neg n10, if_neg q2, if_pos q3, lt_s9]
  have f0 : FT [72, 73] T (pj T 52 37 0) := FT.pj (by unfold scj; omega)
  obtain ⟨r, S2, T2, z1, z2, z3, z4⟩ := blk (N := N) (w := w) (S0 := S) (T0 := T) hN hE w2 w1 hv hw hm.1.2.1 E 0 N 0 S (pj T 52 37 0) (fun _ => 0) Fr.rf f0 (by rw [gi_pj]; rfl) (by omega) (fun x hx => absurd hx (by omega)) (fun x hx => absurd hx (by omega)) (by omega) (by omega)
  have z1' : fX0_fewestBlankets N S (nI w) = some (S2, r) := z1
  have z2' : fX12_blankets_l29 N N (nI w) 1 0 (pj T 52 37 0) = some (T2, r) := z2
  rw [b2_s z1', z2']
  exact ⟨r, S2, T2, rfl, rfl, rel_ft h (z3.mono (by decide)) (z4.mono (by decide))⟩
