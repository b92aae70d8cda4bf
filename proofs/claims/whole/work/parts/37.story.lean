/-! story, shares, and what is most -/
theorem or0 (x : Int32) : x ||| 0 = x := Int32.or_zero
theorem zo (x : Int32) : 0 ||| x = x := Int32.zero_or
theorem nbrs {E N : Nat} {S T : SS} (h : Cx E S T) {d : Nat} (hd : d < E) : ∃ r, fX8_neighboursOf N S 18 (nI d) = some r ∧ (ck (inb (14 + nI d) 214) <| bd (fX12_bitOf N (ga T 67 (14 + nI d))) fun r21 => ck (inb (21 + nI d) 214) <| bd (fX12_bitOf N (ga T 67 (21 + nI d))) fun r24 => some (r21 ||| r24)) = some r := by
  obtain ⟨hE, hm, hv, hw⟩ := h
  unfold fX8_neighboursOf fX8_neighboursOf_j23 fX12_bitOf
  rw [a14, a21]
  have h7 : d < 7 := by omega
  simp (disch := omega) only [ck_in, ga_nI, lt_s9, (hv.2.1 d hd).2.2.1, (hv.2.1 d hd).2.2.2]
  by_cases h1 : T.1 67 (14 + d) = -1 <;> by_cases h2 : T.1 67 (21 + d) = -1
  · rw [if_pos h1, if_pos h2, if_pos h1, if_pos h2]
    exact ⟨0, rfl, rfl⟩
  · rw [if_pos h1, if_neg h2, if_pos h1, if_neg h2]
    exact ⟨_, rfl, rfl⟩
  · rw [if_neg h1, if_neg h1, if_pos h2, if_pos h2]
    refine ⟨_, rfl, ?_⟩
    show some ((sl 1 (T.1 67 (14 + d))) ||| 0) = some (0 ||| (sl 1 (T.1 67 (14 + d))))
    rw [or0, zo]
  · rw [if_neg h1, if_neg h1, if_neg h2, if_neg h2]
    refine ⟨_, rfl, ?_⟩
    show some ((sl 1 (T.1 67 (14 + d))) ||| (sl 1 (T.1 67 (21 + d)))) = some (0 ||| (sl 1 (T.1 67 (14 + d))) ||| (sl 1 (T.1 67 (21 + d))))
    rw [zo]
theorem s_story {N : Nat} (hN : 9 ≤ N) {S T : SS} (h : Rel N S T) (a1 a2 : Int32) : ∃ (r : Int32) (S' T' : SS), (fX11_story N S a1 a2 = some r ∧ S' = S) ∧ (fX12_story N T a1 a2 = some r ∧ T' = T) ∧ Rel N S' T' := by
  obtain ⟨E, ht, hm, hl, ha, hi, hs, hz⟩ := id h
  have hc := cx_of hm ha
  obtain ⟨hE, _, hv, hw⟩ := id hc
  unfold fX11_story fX12_story
  rcases end3 (N := N) hm a1 with ⟨e1, e2⟩ | ⟨d, hd, rfl, e1, e2⟩
  · rw [bd_s e1, bd_s e2]
    exact ⟨_, S, T, ⟨rfl, rfl⟩, ⟨rfl, rfl⟩, h⟩
  rw [bd_s e1, bd_s e2, if_neg n10, if_neg n10]
  rcases ix3 a2 (n := 5) (by omega) with q | q | ⟨j, hj, rfl⟩
  · rw [if_neg (show ¬ a2 = 0 from lit_lo q 0 (by decide)), if_neg (show ¬ a2 = 1 from lit_lo q 1 (by decide)), if_neg (show ¬ a2 = 2 from lit_lo q 2 (by decide)), if_neg (show ¬ a2 = 3 from lit_lo q 3 (by decide)), if_neg (show ¬ a2 = 4 from lit_lo q 4 (by decide)), bd_s (in_lo q), if_pos rfl]
    exact ⟨_, S, T, ⟨rfl, rfl⟩, ⟨rfl, rfl⟩, h⟩
  · rw [if_neg (show ¬ a2 = 0 from lit_hi q.2 0 (by decide) (n := 5) (by decide)), if_neg (show ¬ a2 = 1 from lit_hi q.2 1 (by decide) (n := 5) (by decide)), if_neg (show ¬ a2 = 2 from lit_hi q.2 2 (by decide) (n := 5) (by decide)), if_neg (show ¬ a2 = 3 from lit_hi q.2 3 (by decide) (n := 5) (by decide)), if_neg (show ¬ a2 = 4 from lit_hi q.2 4 (by decide) (n := 5) (by decide)), bd_s (in_hi (b := 4) (n := 5) (by omega) (by omega) (by decide) q.2), if_pos rfl]
    exact ⟨_, S, T, ⟨rfl, rfl⟩, ⟨rfl, rfl⟩, h⟩
  · rw [bd_s (in_ok (b := 4) (n := 5) hj (by omega) (by decide)), if_neg n10]
    obtain ⟨f1, f2⟩ := firsts hN hc hd
    obtain ⟨r1, g1, g2⟩ := lasts hN hc hd
    obtain ⟨r4, b1, b2⟩ := nbrs (N := N) hc hd
    rw [bd_s f1, bd_s f2, bd_s g1, bd_s g2, bd_s (c_size hN hE hv hw hd), bd_s (m_many hN hE hw hd), bd_s (c_tale hN hE hv hw hd), bd_s (c_lent hN hE hv hw hd), bd_s (m_len hN hE hw hd), bd_s (c_sold hE hv hw hd), bd_s (m_sold hE hw hd), bd_s b1, b2]
    rcases (by omega : j = 0 ∨ j = 1 ∨ j = 2 ∨ j = 3 ∨ j = 4) with rfl | rfl | rfl | rfl | rfl
    · exact ⟨_, S, T, ⟨rfl, rfl⟩, ⟨rfl, rfl⟩, h⟩
    · exact ⟨_, S, T, ⟨rfl, rfl⟩, ⟨rfl, rfl⟩, h⟩
    · exact ⟨_, S, T, ⟨rfl, rfl⟩, ⟨rfl, rfl⟩, h⟩
    · exact ⟨_, S, T, ⟨rfl, rfl⟩, ⟨rfl, rfl⟩, h⟩
    · cases sdF (T.1 67) d
      · exact ⟨r4, S, T, ⟨rfl, rfl⟩, ⟨rfl, rfl⟩, h⟩
      · exact ⟨0, S, T, ⟨rfl, rfl⟩, ⟨rfl, rfl⟩, h⟩
theorem k_all : ∀ E, E < 8 → (sl 1 (nI E)) - 1 = nI (2 ^ E - 1) ∧ 2 ^ E - 1 < 128 ∧ ∀ d, d < E → (2 ^ E - 1).testBit d = true := by decide +kernel
theorem sumF_le (c : Nat) : ∀ (n : Nat) (f : Nat → Nat), (∀ i, i < n → f i ≤ c) → sumF f n ≤ c * n
  | 0, _, _ => by simp [sumF]
  | n + 1, f, h => by
    have h1 := sumF_le c n f (fun i hi => h i (by omega))
    have h2 := h n (by omega)
    rw [sumF_s, Nat.mul_succ]
    omega
theorem sumF_pos : ∀ (n : Nat) (f : Nat → Nat), 0 < n → (∀ i, i < n → 1 ≤ f i) → 1 ≤ sumF f n
  | n + 1, f, _, h => by
    have h2 := h n (by omega)
    rw [sumF_s]
    omega
theorem m_shares_l {E N d : Nat} {T : SS} {c : Int32} (hE : E ≤ 7) (he : gi T 52 22 = nI E) (hw : wfL E (T.1 67)) (hd : d < E) : ∀ (j i n : Nat), i + j = E → j < n → fX12_shares_l26 N n (nI d) c (nI (sumF (lnF (T.1 67)) i)) (nI i) T = some (c * nI (lnF (T.1 67) d) / nI (sumF (lnF (T.1 67)) E)) := by
  intro j
  induction j with
  | zero =>
    intro i n hi hn
    obtain ⟨n, rfl⟩ : ∃ q, n = q + 1 := ⟨n - 1, by omega⟩
    have h1 := sumF_pos E (lnF (T.1 67)) (by omega) (fun i hi => (lnF_eq hw hi).2.1)
    have h2 := sumF_le 20 E (lnF (T.1 67)) (fun i hi => (lnF_eq hw hi).2.2)
    unfold fX12_shares_l26
    rw [he, if_pos (nI_le (by omega) (by omega)), show i = E by omega, a7, ck_in (by omega) (by omega), ck_t (decide_eq_true (nI_ne0 (by omega) (by omega))), ga_nI (by omega), (lnF_eq hw hd).1]
  | succ j ih =>
    intro i n hi hn
    obtain ⟨n, rfl⟩ : ∃ q, n = q + 1 := ⟨n - 1, by omega⟩
    have h1 := ih (i + 1) n (by omega) (by omega)
    unfold fX12_shares_l26
    rw [he, if_neg (nI_ge (by omega) (by omega)), a7, ck_in (by omega) (by omega), lt_s9, lt_s9, ga_nI (by omega), (lnF_eq hw (show i < E by omega)).1, nI_add, nI_1]
    exact h1
theorem s_shares {N : Nat} (hN : 9 ≤ N) {S T : SS} (h : Rel N S T) (a1 a2 : Int32) : ∃ (r : Int32) (S' T' : SS), (fX11_shares N S a1 a2 = some r ∧ S' = S) ∧ (fX12_shares N T a1 a2 = some r ∧ T' = T) ∧ Rel N S' T' := by
  obtain ⟨E, ht, hm, hl, ha, hi, hs, hz⟩ := id h
  have hc := cx_of hm ha
  obtain ⟨hE, _, hv, hw⟩ := id hc
  unfold fX11_shares fX12_shares
  rcases end3 (N := N) hm a1 with ⟨e1, e2⟩ | ⟨d, hd, rfl, e1, e2⟩
  · rw [bd_s e1, bd_s e2]
    exact ⟨_, S, T, ⟨rfl, rfl⟩, ⟨rfl, rfl⟩, h⟩
  rw [bd_s e1, bd_s e2, if_neg n10, if_neg n10]
  rcases ix3 a2 (n := 1000) (by omega) with q | q | ⟨j, hj, rfl⟩
  · rw [if_pos q, bd_s (in_lo q)]
    exact ⟨_, S, T, ⟨rfl, rfl⟩, ⟨rfl, rfl⟩, h⟩
  · rw [if_neg q.1, if_neg (show ¬ a2 ≤ 999 from fun z => by
        have z1 := Int32.le_iff_toInt_le.mp z
        have z2 := Int32.le_iff_toInt_le.mp q.2
        have z3 : (nI 1000).toInt = 1000 := by decide
        have z4 : (999 : Int32).toInt = 999 := by decide
        omega), bd_s (in_hi (b := 999) (n := 1000) (by omega) (by omega) (by decide) q.2)]
    exact ⟨_, S, T, ⟨rfl, rfl⟩, ⟨rfl, rfl⟩, h⟩
  · have k := k_all E (by omega)
    have h1 := sumF_pos E (lnF (T.1 67)) (by omega) (fun i hi => (lnF_eq hw hi).2.1)
    have h2 := sumF_le 20 E (lnF (T.1 67)) (fun i hi => (lnF_eq hw hi).2.2)
    have e : fX8_lengthOf N S 18 (sl 1 (gi S 3 0) - 1) = some (nI (sumF (lnF (T.1 67)) E)) := by
      rw [hm.1.1, k.1, c_len hN hE hv hw k.2.1]
      congr 2
      apply sumF_c
      intro i hi
      simp [k.2.2 i hi]
    rw [if_neg (nI_pos (by omega)), if_pos (show nI j ≤ 999 from nI_le (b := 999) (by omega) (by omega)), bd_s (in_ok (b := 999) (n := 1000) hj (by omega) (by decide)), if_neg n10, bd_s e, if_neg (nI_nle (by omega) (by omega)), ck_in (by omega) (by omega), ck_t (decide_eq_true (nI_ne0 (by omega) (by omega))), ga_nI (by omega), (hv.2.1 d hd).2.1, (lnF_eq hw hd).1]
    exact ⟨_, S, T, ⟨rfl, rfl⟩, ⟨m_shares_l hE hm.1.2.1 hw hd E 0 N (by omega) (by omega), rfl⟩, h⟩
theorem tops_l {E N q : Nat} {S T : SS} {W : Int32} {g : Nat → Int32} (hE : E ≤ 7) (h3 : gi S 3 0 = nI E) (he : gi T 52 22 = nI E) (hq : aln S.2.2 q = 7) (hg : ∀ d, d < E → S.1 q d = g d ∧ fX12_valueOf N T (nI d) W = some (g d)) : ∀ (j i b n : Nat), i + j = E → b < E → j < n → ∃ r, fX11_highest_l4 N q n (nI b) (nI i) S = some r ∧ fX12_topBy_l4 N n W (nI b) (nI i) T = some r := by
  intro j
  induction j with
  | zero =>
    intro i b n hi hb hn
    obtain ⟨n, rfl⟩ : ∃ q, n = q + 1 := ⟨n - 1, by omega⟩
    unfold fX11_highest_l4 fX12_topBy_l4
    rw [h3, he, if_pos (nI_le (by omega) (by omega)), if_pos (nI_le (by omega) (by omega))]
    exact ⟨_, rfl, rfl⟩
  | succ j ih =>
    intro i b n hi hb hn
    obtain ⟨n, rfl⟩ : ∃ q, n = q + 1 := ⟨n - 1, by omega⟩
    have hi' : i < E := by omega
    unfold fX11_highest_l4 fX12_topBy_l4
    rw [h3, he, if_neg (nI_ge (by omega) (by omega)), if_neg (nI_ge (by omega) (by omega)), hq, if_neg (show ¬ Int32.ofNat 7 ≤ nI i from nI_ge (b := 7) (by omega) (by omega)), ck_in (by omega) (by omega), ck_in (by omega) (by omega), ga_nI (by omega), ga_nI (by omega), (hg i hi').1, (hg b hb).1, bd_s (hg i hi').2, bd_s (hg b hb).2, lt_s9, lt_s9, nI_1]
    by_cases hc : g i ≤ g b
    · rw [if_pos hc, if_pos hc]
      exact ih (i + 1) b n (by omega) hb (by omega)
    · rw [if_neg hc, if_neg hc]
      exact ih (i + 1) i n (by omega) hi' (by omega)
theorem tops {E N q : Nat} {S T : SS} {W : Int32} {g : Nat → Int32} (hN : 9 ≤ N) (hp : 2 ≤ E) (hE : E ≤ 7) (h3 : gi S 3 0 = nI E) (he : gi T 52 22 = nI E) (hq : aln S.2.2 q = 7) (hg : ∀ d, d < E → S.1 q d = g d ∧ fX12_valueOf N T (nI d) W = some (g d)) : ∃ r, fX11_highest N S q = some r ∧ fX12_topBy N T W = some r := tops_l hE h3 he hq hg (E - 1) 1 0 N (by omega) (by omega) (by omega)
theorem looses_l {E N : Nat} {S T : SS} (h : Cx E S T) : ∀ (j i n : Nat) (x : Int32), i + j = E → j < n → ∃ r, fX8_looseBits_l4 N 18 n x (nI i) S = some r ∧ fX12_looseOnes_l4 N n x (nI i) T = some r := by
  obtain ⟨hE, hm, hv, hw⟩ := h
  intro j
  induction j with
  | zero =>
    intro i n x hi hn
    obtain ⟨n, rfl⟩ : ∃ q, n = q + 1 := ⟨n - 1, by omega⟩
    unfold fX8_looseBits_l4 fX12_looseOnes_l4
    rw [hv.1, hm.1.2.1, if_pos (nI_le (by omega) (by omega)), if_pos (nI_le (by omega) (by omega))]
    exact ⟨_, rfl, rfl⟩
  | succ j ih =>
    intro i n x hi hn
    obtain ⟨n, rfl⟩ : ∃ q, n = q + 1 := ⟨n - 1, by omega⟩
    have hi' : i < E := by omega
    unfold fX8_looseBits_l4 fX12_looseOnes_l4
    rw [hv.1, hm.1.2.1, if_neg (nI_ge (by omega) (by omega)), if_neg (nI_ge (by omega) (by omega)), bd_s (c_loose hE hv hw hi'), bd_s (m_loose hE hw hi'), or0, lt_s9, lt_s9, lt_s9, lt_s9, nI_1]
    cases loF (T.1 67) i
    · exact ih (i + 1) n x (by omega) (by omega)
    · exact ih (i + 1) n _ (by omega) (by omega)
def isT (m : Nat → Int32) (d : Nat) : Bool := !(sdF m d) && decide (m (21 + d) = -1) && !(decide (m (14 + d) = -1))
theorem c_isT {E N : Nat} {S T : SS} (h : Cx E S T) {d : Nat} (hd : d < E) : fX0_isFirstOfTale N S (nI d) = some (i01 (isT (T.1 67) d)) ∧ fX12_isTale N T (nI d) = some (i01 (isT (T.1 67) d)) := by
  obtain ⟨hE, hm, hv, hw⟩ := h
  unfold fX0_isFirstOfTale fX12_isTale isT
  rw [a14, a21]
  rw [bd_s (c_sold hE hv hw hd), bd_s (m_sold hE hw hd), ck_in (n := 7) (by omega) (by omega), ck_in (n := 7) (by omega) (by omega), ck_in (n := 214) (by omega) (by omega), ck_in (n := 214) (by omega) (by omega), ga_nI (by omega), ga_nI (by omega), ga_nI (by omega), ga_nI (by omega), (hv.2.1 d hd).2.2.1, (hv.2.1 d hd).2.2.2]
  constructor <;> (cases sdF (T.1 67) d <;> by_cases h1 : T.1 67 (14 + d) = -1 <;> by_cases h2 : T.1 67 (21 + d) = -1 <;> simp [h1, h2, i01])
theorem tales_l {E N : Nat} {S T : SS} (h : Cx E S T) : ∀ (j i n : Nat) (x : Int32), i + j = E → j < n → ∃ r, fX0_countTales_l4 N n x (nI i) S = some r ∧ fX12_tales_l4 N n x (nI i) T = some r := by
  obtain ⟨hE, hm, hv, hw⟩ := id h
  intro j
  induction j with
  | zero =>
    intro i n x hi hn
    obtain ⟨n, rfl⟩ : ∃ q, n = q + 1 := ⟨n - 1, by omega⟩
    unfold fX0_countTales_l4 fX12_tales_l4
    rw [hv.1, hm.1.2.1, if_pos (nI_le (by omega) (by omega)), if_pos (nI_le (by omega) (by omega))]
    exact ⟨_, rfl, rfl⟩
  | succ j ih =>
    intro i n x hi hn
    obtain ⟨n, rfl⟩ : ∃ q, n = q + 1 := ⟨n - 1, by omega⟩
    have hi' : i < E := by omega
    unfold fX0_countTales_l4 fX12_tales_l4
    rw [hv.1, hm.1.2.1, if_neg (nI_ge (by omega) (by omega)), if_neg (nI_ge (by omega) (by omega)), bd_s (c_isT h hi').1, bd_s (c_isT h hi').2, Int32.add_zero, lt_s9, lt_s9, lt_s9, lt_s9, nI_1]
    cases isT (T.1 67) i
    · exact ih (i + 1) n x (by omega) (by omega)
    · exact ih (i + 1) n _ (by omega) (by omega)
theorem c_price {E k N : Nat} {S : SS} {m : Nat → Int32} (hN : 9 ≤ N) (hE : E ≤ 7) (hv : Lv E k S m) (hw : wfL E m) {d : Nat} (hd : d < E) : fX8_priceOf N S k (nI (bN (tw m d) 0)) = some (nI (lgF m d) * nI (tw m d).length / 4) := by
  unfold fX8_priceOf
  rw [bd_s (c_lent hN hE hv hw hd), bd_s (bitc (tw_bits hE hw hd).1), (tw_bits hE hw hd).2]
theorem m_price {E N : Nat} {T : SS} (hN : 9 ≤ N) (hE : E ≤ 7) (hw : wfL E (T.1 67)) {d : Nat} (hd : d < E) : fX12_worthOfTale N T (nI d) = some (nI (lgF (T.1 67) d) * nI (tw (T.1 67) d).length / 4) := by
  unfold fX12_worthOfTale
  rw [bd_s (m_len hN hE hw hd), bd_s (m_many hN hE hw hd)]
theorem worths_l {E N : Nat} (hN : 9 ≤ N) {S T : SS} (h : Cx E S T) : ∀ (j i n : Nat) (x : Int32), i + j = E → j < n → ∃ r, fX0_priceOfTales_l4 N n x (nI i) S = some r ∧ fX12_worthOfAll_l4 N n x (nI i) T = some r := by
  obtain ⟨hE, hm, hv, hw⟩ := id h
  intro j
  induction j with
  | zero =>
    intro i n x hi hn
    obtain ⟨n, rfl⟩ : ∃ q, n = q + 1 := ⟨n - 1, by omega⟩
    unfold fX0_priceOfTales_l4 fX12_worthOfAll_l4
    rw [hv.1, hm.1.2.1, if_pos (nI_le (by omega) (by omega)), if_pos (nI_le (by omega) (by omega))]
    exact ⟨_, rfl, rfl⟩
  | succ j ih =>
    intro i n x hi hn
    obtain ⟨n, rfl⟩ : ∃ q, n = q + 1 := ⟨n - 1, by omega⟩
    have hi' : i < E := by omega
    unfold fX0_priceOfTales_l4 fX12_worthOfAll_l4
    rw [hv.1, hm.1.2.1, if_neg (nI_ge (by omega) (by omega)), if_neg (nI_ge (by omega) (by omega)), bd_s (c_isT h hi').1, bd_s (c_isT h hi').2, bd_s (c_tale hN hE hv hw hi'), bd_s (c_price hN hE hv hw hi'), bd_s (m_price hN hE hw hi'), Int32.add_zero, lt_s9, lt_s9, lt_s9, lt_s9, nI_1]
    cases isT (T.1 67) i
    · exact ih (i + 1) n x (by omega) (by omega)
    · exact ih (i + 1) n _ (by omega) (by omega)
