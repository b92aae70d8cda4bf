/-! the start, and the calls that read or set one number -/
theorem rel0 {N : Nat} : Rel N S0 T0 := by
  refine ⟨0, ⟨0, by omega, rfl, rfl, fun j hj => absurd hj (by omega)⟩, ⟨⟨rfl, rfl, rfl⟩, Or.inl rfl, by omega, fun h => absurd h (by omega)⟩, ⟨0, by omega, rfl, rfl, rfl, Or.inl rfl, fun i hi => absurd hi (by omega)⟩, ?_, ⟨Or.inl rfl, rfl, fun h => absurd h (by decide)⟩, ⟨0, by omega, rfl, rfl, fun j hj => absurd hj (by omega)⟩, ⟨fun j hj => ?_, rfl⟩⟩
  · refine ⟨⟨fun j hj => ?_, ⟨fun d hd => absurd hd (by omega), ⟨[], ⟨List.nodup_nil, fun d => ⟨(fun h => nomatch h), fun h => absurd h (by omega)⟩, (fun t ht => nomatch ht)⟩, (fun t ht => nomatch ht)⟩, ⟨0, by decide, rfl⟩, ⟨0, by decide, rfl⟩, ⟨0, by decide, rfl⟩, ⟨0, by decide, rfl⟩, ⟨0, by decide, rfl⟩⟩, ⟨rfl, fun i w hi => absurd hi (by rw [show dayN (T0.1 67) = 0 from rfl]; omega)⟩⟩, 0, 0, by omega, by omega, rfl, rfl, rfl, fun j hj => absurd hj (by omega), fun h => absurd h (by omega), fun j hj => absurd hj (by omega)⟩
    have h28 : ¬ j < 28 := fun h => absurd (hj.1 h) (Nat.not_lt_zero _)
    show nowC S0 j = T0.1 67 j
    unfold nowC
    rw [if_neg (by omega), if_neg (by omega), if_neg (by omega), if_neg h28]
    have hj2 := hj.2
    show S0.1 18 (j - 23) = T0.1 67 j
    simp [S0, T0]
  · show S0.1 47 j = T0.1 68 j
    simp [S0, T0]
theorem nI_s1 {n : Nat} (h0 : 0 < n) : nI n - 1 = nI (n - 1) := by
  obtain ⟨m, rfl⟩ : ∃ m, n = m + 1 := ⟨n - 1, by omega⟩
  rw [nI_pred]
  rfl
theorem hi_lt {x : Int32} {n : Nat} (h0 : 0 < n) (hn : n < 2 ^ 31) (h : nI n ≤ x) : nI n - 1 < x := by
  rw [nI_s1 h0, Int32.lt_iff_toInt_lt, nI_toInt (by omega)]
  rw [Int32.le_iff_toInt_le, nI_toInt hn] at h
  omega
theorem in_lo {x b : Int32} {N : Nat} (h : x < 0) : fX12_in N x 0 b = some 0 := by
  unfold fX12_in
  rw [if_pos h]
theorem in_hi {x a b : Int32} {N n : Nat} (h0 : 0 < n) (hn : n < 2 ^ 31) (hb : b = nI n - 1) (h : nI n ≤ x) : fX12_in N x a b = some 0 := by
  unfold fX12_in
  rw [hb, if_pos (hi_lt h0 hn h)]
  split <;> rfl
theorem in_ok {b : Int32} {N n j : Nat} (hj : j < n) (hn : n < 2 ^ 31) (hb : b = nI n - 1) : fX12_in N (nI j) 0 b = some 1 := by
  unfold fX12_in
  rw [if_neg (nI_pos (by omega)), hb, nI_s1 (by omega), if_neg (nI_nlt (by omega) (by omega))]
theorem in_01 {x a b : Int32} {N : Nat} : fX12_in N x a b = some 0 ∨ fX12_in N x a b = some 1 := by
  unfold fX12_in
  split
  · exact Or.inl rfl
  · split
    · exact Or.inl rfl
    · exact Or.inr rfl
theorem has_lo {S : SS} {k : Nat} {x : Int32} {N : Nat} (h : x < 0) : fX5_has N S k x = some 0 := by
  unfold fX5_has
  rw [if_pos h]
theorem has_hi {S : SS} {k E : Nat} {x : Int32} {N : Nat} (he : gi S k 0 = nI E) (h : nI E ≤ x) : fX5_has N S k x = some 0 := by
  unfold fX5_has
  rw [he, if_pos h]
  split <;> rfl
theorem has_ok {S : SS} {k E j : Nat} {N : Nat} (he : gi S k 0 = nI E) (hj : j < E) (hE : E ≤ 7) : fX5_has N S k (nI j) = some 1 := by
  unfold fX5_has
  rw [he, if_neg (nI_pos (by omega)), if_neg (nI_ge hj (by omega))]
theorem there_0 {S : SS} {k N : Nat} (he : gi S k 0 = nI 0) : fX5_isThere N S k = some 0 := by
  unfold fX5_isThere
  rw [he]
  rfl
theorem there_1 {S : SS} {k E N : Nat} (he : gi S k 0 = nI E) (h : 0 < E) (hE : E ≤ 7) : fX5_isThere N S k = some 1 := by
  unfold fX5_isThere
  rw [he, if_neg (nI_nle h (by omega))]
theorem isEnd_lo {T : SS} {x : Int32} {N : Nat} (h : x < 0) : fX12_isEnd N T x = some 0 := by
  unfold fX12_isEnd
  rw [in_lo h]
  rfl
theorem isEnd_hi {T : SS} {E : Nat} {x : Int32} {N : Nat} (he : gi T 52 22 = nI E) (hE : E ≤ 7) (h0 : ¬ x < 0) (h : nI E ≤ x) : fX12_isEnd N T x = some 0 := by
  unfold fX12_isEnd
  rw [he]
  rcases Nat.eq_zero_or_pos E with rfl | hp
  · have : fX12_in N x 0 (nI 0 - 1) = some 0 := by
      unfold fX12_in
      rw [if_neg h0, if_pos]
      rw [Int32.lt_iff_toInt_lt]
      have h1 : ¬ x.toInt < 0 := fun z => h0 (Int32.lt_iff_toInt_lt.mpr (by simpa using z))
      have h2 : (nI 0 - 1).toInt = -1 := by decide
      omega
    rw [this]
    rfl
  · rw [in_hi hp (by omega) rfl h]
    rfl
theorem isEnd_ok {T : SS} {E j : Nat} {N : Nat} (he : gi T 52 22 = nI E) (hj : j < E) (hE : E ≤ 7) : fX12_isEnd N T (nI j) = some 1 := by
  unfold fX12_isEnd
  rw [he, in_ok hj (by omega) rfl]
  rfl
/-- end(n) -/
theorem s_end {N : Nat} {S T : SS} (h : Rel N S T) (a1 : Int32) : ∃ (r : Int32) (S' T' : SS), (fX11_end N S a1 = some (S', r)) ∧ (fX12_end N T a1 = some (T', r)) ∧ Rel N S' T' := by
  obtain ⟨E, ⟨n, h1, h2, h3, h4⟩, hm, hl, ha, hi, hs, hz⟩ := id h
  unfold fX11_end fX12_end
  rw [h2, h3]
  by_cases c1 : a1 < 0
  · rw [if_pos c1, if_pos c1]
    exact ⟨0, S, T, rfl, rfl, h⟩
  rw [if_neg c1, if_neg c1]
  by_cases c2 : a1 ≤ nI n
  · rw [if_pos c2, if_pos c2]
    obtain ⟨j, hj, rfl⟩ : ∃ j, j ≤ n ∧ a1 = nI j := by
      rcases ix3 a1 (n := n + 1) (by omega) with q | q | ⟨j, hj, e⟩
      · exact absurd q c1
      · have q2 := q.2
        rw [Int32.le_iff_toInt_le, nI_toInt (by omega)] at q2 c2
        omega
      · exact ⟨j, by omega, e⟩
    refine ⟨1, pj S 1 1 (nI j), pj T 52 2 (nI j), rfl, rfl, E, ⟨j, by omega, by rw [gi_pj]; rfl, by rw [gi_pj]; rfl, fun i hi => ?_⟩, rMill_c (sm_pj (by simp [millC])) (sm_pj (by simp [millM])) hm, rLaw_c (sm_pj (by simp [lawC])) rfl (sm_pj (by simp [lawM])) hl, rAct_c (sm_pj (by simp [actC])) (sm_pj (by simp [actM])) ha, rImg_c (sm_pj (by simp [imgC])) (sm_pj (by simp [imgM])) hi, rSeen_c (sm_pj (by simp [seenC])) (sm_pj (by simp [seenM])) hs, rMisc_c (sm_pj (by simp [miscC])) (sm_pj (by simp [miscM])) hz⟩
    rw [row_pj, row_pj, if_neg (by decide), if_neg (by decide)]
    exact h4 i (by omega)
  · rw [if_neg c2, if_neg c2]
    exact ⟨0, S, T, rfl, rfl, h⟩
/-- law(n) -/
theorem s_law {N : Nat} {S T : SS} (h : Rel N S T) (a1 : Int32) : ∃ (r : Int32) (S' T' : SS), (fX11_law N S a1 = some (S', r)) ∧ (fX12_law N T a1 = some (T', r)) ∧ Rel N S' T' := by
  obtain ⟨E, ht, hm, ⟨n, h1, h2, h3, h4, h5, h6⟩, ha, hi, hs, hz⟩ := id h
  unfold fX11_law fX12_law fX12_in
  rw [h2, h3]
  by_cases c1 : a1 < -1
  · rw [if_pos c1, if_pos c1]
    exact ⟨0, S, T, rfl, rfl, h⟩
  rw [if_neg c1, if_neg c1]
  have t1 : (nI n - 1).toInt = (n : Int) - 1 := pk_sub_toInt (a := n) (b := 1) (by omega) (by decide)
  by_cases c2 : a1 < nI n
  · have c3 : ¬ nI n - 1 < a1 := by
      rw [Int32.lt_iff_toInt_lt, nI_toInt (by omega)] at c2
      rw [Int32.lt_iff_toInt_lt, t1]
      omega
    rw [if_pos c2, if_neg c3]
    have c4 : a1 = -1 ∨ ∃ j, j < n ∧ a1 = nI j := by
      rcases ix3 a1 (n := n) (by omega) with q | q | q
      · left
        apply Int32.toInt_inj.mp
        have e1 : ¬ a1.toInt < -1 := fun z => c1 (Int32.lt_iff_toInt_lt.mpr (by simpa using z))
        have e2 : a1.toInt < 0 := by simpa using Int32.lt_iff_toInt_lt.mp q
        have e3 : (-1 : Int32).toInt = -1 := by decide
        omega
      · have q2 := q.2
        rw [Int32.le_iff_toInt_le, nI_toInt (by omega)] at q2
        rw [Int32.lt_iff_toInt_lt, nI_toInt (by omega)] at c2
        omega
      · exact Or.inr q
    refine ⟨1, pj S 14 5 a1, pj T 52 25 a1, rfl, rfl, E, rTape_c (sm_pj (by simp [tapeC])) (sm_pj (by simp [tapeM])) ht, rMill_c (sm_pj (by simp [millC])) (sm_pj (by simp [millM])) hm, ⟨n, h1, by rw [gi_pj]; exact h2, by rw [gi_pj]; exact h3, by rw [gi_pj, gi_pj]; rfl, ?_, fun i hi => ?_⟩, rAct_c (sm_pj (by simp [actC])) (sm_pj (by simp [actM])) ha, rImg_c (sm_pj (by simp [imgC])) (sm_pj (by simp [imgM])) hi, rSeen_c (sm_pj (by simp [seenC])) (sm_pj (by simp [seenM])) hs, rMisc_c (sm_pj (by simp [miscC])) (sm_pj (by simp [miscM])) hz⟩
    · rw [gi_pj]
      exact c4
    · intro S1 T1 g1 g2 g3 g4 g5 g6
      refine h6 i hi S1 T1 (g1.trans ?_) g2 g3 g4 g5 g6
      rw [row_pj, if_neg (by omega)]
  · have c3 : nI n - 1 < a1 := by
      rw [Int32.lt_iff_toInt_lt, nI_toInt (by omega)] at c2
      rw [Int32.lt_iff_toInt_lt, t1]
      omega
    rw [if_neg c2, if_pos c3]
    exact ⟨0, S, T, rfl, rfl, h⟩
/-- wakes(v) -/
theorem s_wakes {N : Nat} {S T : SS} (h : Rel N S T) (a1 : Int32) : ∃ (r : Int32) (S' T' : SS), (fX11_wakes N S a1 = some (S', r)) ∧ (fX12_wakes N T a1 = some (T', r)) ∧ Rel N S' T' := by
  obtain ⟨E, ht, hm, hl, ha, hi, hs, hz⟩ := id h
  unfold fX11_wakes fX12_wakes
  rw [hz.2]
  rcases ix3 a1 (n := 10) (by omega) with q | q | ⟨j, hj, rfl⟩
  · rw [if_pos q, in_lo q]
    exact ⟨0, S, T, rfl, rfl, h⟩
  · have q9 : (9 : Int32) < a1 := hi_lt (n := 10) (by omega) (by omega) q.2
    rw [if_neg q.1, if_pos q9, in_hi (b := 9) (n := 10) (by omega) (by omega) (by decide) q.2]
    exact ⟨0, S, T, rfl, rfl, h⟩
  · have q9 : ¬ (9 : Int32) < nI j := nI_nlt (a := 9) (by omega) (by omega)
    rw [if_neg (nI_pos (by omega)), if_neg q9, bd_s (in_ok (b := 9) (n := 10) hj (by omega) (by decide)), if_neg (show ¬ (1 : Int32) = 0 by decide)]
    by_cases c : nI j = gi T 52 26
    · rw [if_pos c, if_pos c]
      exact ⟨0, S, T, rfl, rfl, h⟩
    · rw [if_neg c, if_neg c]
      refine ⟨1, pj S 0 12 (nI j), pj T 52 26 (nI j), rfl, rfl, E, rTape_c (sm_pj (by simp [tapeC])) (sm_pj (by simp [tapeM])) ht, rMill_c (sm_pj (by simp [millC])) (sm_pj (by simp [millM])) hm, rLaw_c (sm_pj (by simp [lawC])) rfl (sm_pj (by simp [lawM])) hl, rAct_c (sm_pj (by simp [actC])) (sm_pj (by simp [actM])) ha, rImg_c (sm_pj (by simp [imgC])) (sm_pj (by simp [imgM])) hi, rSeen_c (sm_pj (by simp [seenC])) (sm_pj (by simp [seenM])) hs, ⟨fun i hi => ?_, by rw [gi_pj, gi_pj]; rfl⟩⟩
      rw [row_pj, row_pj, if_neg (by decide), if_neg (by decide)]
      exact hz.1 i hi
/-- status(what) -/
theorem s_status {N : Nat} {S T : SS} (h : Rel N S T) (a1 : Int32) : ∃ (r : Int32) (S' T' : SS), (fX11_status N S a1 = some r ∧ S' = S) ∧ (fX12_status N T a1 = some r ∧ T' = T) ∧ Rel N S' T' := by
  obtain ⟨E, ht, hm, hl, ha, hi, hs, hz⟩ := id h
  unfold fX11_status fX12_status
  rcases ix3 a1 (n := 5) (by omega) with q | q | ⟨j, hj, rfl⟩
  · rw [if_pos q, in_lo q]
    exact ⟨_, S, T, ⟨rfl, rfl⟩, ⟨rfl, rfl⟩, h⟩
  · rw [if_neg q.1, if_pos (show (5 : Int32) ≤ a1 from q.2), in_hi (b := 4) (n := 5) (by omega) (by omega) (by decide) q.2]
    exact ⟨_, S, T, ⟨rfl, rfl⟩, ⟨rfl, rfl⟩, h⟩
  · rw [if_neg (nI_pos (by omega)), if_neg (show ¬ (5 : Int32) ≤ nI j from nI_ge (b := 5) hj (by omega)), bd_s (in_ok (b := 4) (n := 5) hj (by omega) (by decide)), if_neg (show ¬ (1 : Int32) = 0 by decide), ck_t (inb_nI hj (by omega)), ck_t (inb_nI hj (by omega)), ga_nI (by omega), ga_nI (by omega), hz.1 j hj]
    exact ⟨_, S, T, ⟨rfl, rfl⟩, ⟨rfl, rfl⟩, h⟩
