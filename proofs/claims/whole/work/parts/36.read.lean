/-! the simple answers -/
theorem end3 {E N : Nat} {S T : SS} (hm : rMill E S T) (x : Int32) : (fX5_has N S 3 x = some 0 ∧ fX12_isEnd N T x = some 0) ∨ ∃ j, j < E ∧ x = nI j ∧ fX5_has N S 3 x = some 1 ∧ fX12_isEnd N T x = some 1 := by
  have hE := hm.2.2.1
  rcases ix3 x (n := E) (by omega) with q | q | ⟨j, hj, rfl⟩
  · exact Or.inl ⟨has_lo q, isEnd_lo q⟩
  · exact Or.inl ⟨has_hi hm.1.1 q.2, isEnd_hi hm.1.2.1 hE q.1 q.2⟩
  · exact Or.inr ⟨j, hj, rfl, has_ok hm.1.1 hj hE, isEnd_ok hm.1.2.1 hj hE⟩
theorem there2 {E N : Nat} {S T : SS} (hm : rMill E S T) : (E = 0 ∧ fX5_isThere N S 3 = some 0 ∧ gi T 52 22 = 0) ∨ (0 < E ∧ fX5_isThere N S 3 = some 1 ∧ ¬ gi T 52 22 = 0) := by
  have hE := hm.2.2.1
  rcases Nat.eq_zero_or_pos E with h | h
  · have h1 := hm.1.1
    have h2 := hm.1.2.1
    rw [h] at h1 h2
    exact Or.inl ⟨h, there_0 h1, h2⟩
  · refine Or.inr ⟨h, there_1 hm.1.1 h hE, ?_⟩
    rw [hm.1.2.1]
    exact nI_ne0 h (by omega)
theorem n10 : ¬ (1 : Int32) = 0 := by decide
theorem s_rule {N : Nat} {S T : SS} (h : Rel N S T) (a1 : Int32) : ∃ (r : Int32) (S' T' : SS), (fX11_rule N S a1 = some r ∧ S' = S) ∧ (fX12_rule N T a1 = some r ∧ T' = T) ∧ Rel N S' T' := by
  obtain ⟨E, ht, hm, hl, ha, hi, hs, hz⟩ := id h
  obtain ⟨hE, _, hv, hw⟩ := cx_of hm ha
  unfold fX11_rule fX12_rule
  rcases there2 (N := N) hm with ⟨_, e1, e2⟩ | ⟨hp, e1, e2⟩
  · rw [bd_s e1, if_pos rfl, if_pos e2]
    exact ⟨_, S, T, ⟨rfl, rfl⟩, ⟨rfl, rfl⟩, h⟩
  rw [bd_s e1, if_neg n10, if_neg e2]
  obtain ⟨⟨v0, _, p0, p1⟩, ⟨v1, _, p2, p3⟩, ⟨v2, _, _, p4, p5⟩, _⟩ := hm.2.2.2 hp
  rcases ix3 a1 (n := 4) (by omega) with q | q | ⟨j, hj, rfl⟩
  · rw [if_neg (show ¬ a1 = 0 from lit_lo q 0 (by decide)), if_neg (show ¬ a1 = 1 from lit_lo q 1 (by decide)), if_neg (show ¬ a1 = 2 from lit_lo q 2 (by decide)), if_neg (show ¬ a1 = 3 from lit_lo q 3 (by decide)), bd_s (in_lo q), if_pos rfl]
    exact ⟨_, S, T, ⟨rfl, rfl⟩, ⟨rfl, rfl⟩, h⟩
  · rw [if_neg (show ¬ a1 = 0 from lit_hi q.2 0 (by decide) (n := 4) (by decide)), if_neg (show ¬ a1 = 1 from lit_hi q.2 1 (by decide) (n := 4) (by decide)), if_neg (show ¬ a1 = 2 from lit_hi q.2 2 (by decide) (n := 4) (by decide)), if_neg (show ¬ a1 = 3 from lit_hi q.2 3 (by decide) (n := 4) (by decide)), bd_s (in_hi (b := 3) (n := 4) (by omega) (by omega) (by decide) q.2), if_pos rfl]
    exact ⟨_, S, T, ⟨rfl, rfl⟩, ⟨rfl, rfl⟩, h⟩
  · rw [bd_s (in_ok (b := 3) (n := 4) hj (by omega) (by decide)), if_neg n10]
    rcases (by omega : j = 0 ∨ j = 1 ∨ j = 2 ∨ j = 3) with rfl | rfl | rfl | rfl
    · refine ⟨_, S, T, ⟨rfl, rfl⟩, ⟨?_, rfl⟩, h⟩
      rw [if_neg (by decide), ck_in hj (by omega), ga_nI (by omega), p1, ← p0]
    · refine ⟨_, S, T, ⟨rfl, rfl⟩, ⟨?_, rfl⟩, h⟩
      rw [if_neg (by decide), ck_in hj (by omega), ga_nI (by omega), p3, ← p2]
    · refine ⟨_, S, T, ⟨rfl, rfl⟩, ⟨?_, rfl⟩, h⟩
      rw [if_neg (by decide), ck_in hj (by omega), ga_nI (by omega), p5, ← p4]
    · refine ⟨_, S, T, ⟨rfl, rfl⟩, ⟨?_, rfl⟩, h⟩
      rw [if_pos (by decide), hv.2.2.2.2.2.1]
      rfl
theorem k_mn : ∀ d, d < 1000 → mn 60 (nI d) = nI (min 60 d) := by decide +kernel
theorem k_pl : ∀ d, d < 1000 → fX4_placeOf 0 (nI d) = some (nI (d % 100 * 3)) := by decide +kernel
theorem plc {N d : Nat} (h : d < 1000) : fX4_placeOf N (nI d) = some (nI (d % 100 * 3)) := k_pl d h
theorem day_eq {E : Nat} {m : Nat → Int32} (hw : wfL E m) : m 32 = nI (dayN m) ∧ dayN m ≤ 999 := by
  obtain ⟨v, h1, h2⟩ := hw.2.2.2.2.2.2
  have : dayN m = v := by
    unfold dayN
    rw [h2, nI_clamp (by omega)]
  rw [this]
  exact ⟨h2, h1⟩
theorem s_count {N : Nat} {S T : SS} (h : Rel N S T) (a1 : Int32) : ∃ (r : Int32) (S' T' : SS), (fX11_count N S a1 = some r ∧ S' = S) ∧ (fX12_count N T a1 = some r ∧ T' = T) ∧ Rel N S' T' := by
  obtain ⟨E, ⟨n1, t1, t2, t3, _⟩, hm, ⟨n2, l1, l2, l3, l4, _⟩, ha, hi, ⟨n3, s1, s2, s3, _⟩, hz⟩ := id h
  obtain ⟨hE, _, hv, hw⟩ := cx_of hm ha
  obtain ⟨nx, a, b1, b2, b3, b4, b5, _⟩ := ha.2
  obtain ⟨d1, d2⟩ := day_eq hw
  have e8 : fX4_loggedBy N (gi S 18 9) = some (T.1 67 33) := by
    unfold fX4_loggedBy
    rw [hv.2.2.2.2.2.2, d1, k_mn _ (by omega), ha.1.2.2.1]
  unfold fX11_count fX12_count
  rw [bd_s e8, hm.1.1, hm.1.2.1, l2, l3, t2, t3, l4, hv.2.2.2.2.2.2, hv.2.2.2.1, hz.2, s2, s3, b4, b5, show ga T 67 32 = T.1 67 32 from rfl, show ga T 67 29 = T.1 67 29 from rfl, show ga T 67 33 = T.1 67 33 from rfl]
  have hx : ∀ (X : Option Int32), (∃ r, X = some r) → ∃ (r : Int32) (S' T' : SS), (X = some r ∧ S' = S) ∧ (X = some r ∧ T' = T) ∧ Rel N S' T' := fun X ⟨r, e⟩ => ⟨r, S, T, ⟨e, rfl⟩, ⟨e, rfl⟩, h⟩
  apply hx
  repeat' (first | exact ⟨_, rfl⟩ | split)
theorem s_log {N : Nat} {S T : SS} (h : Rel N S T) (a1 a2 : Int32) : ∃ (r : Int32) (S' T' : SS), (fX11_log N S a1 a2 = some r ∧ S' = S) ∧ (fX12_log N T a1 a2 = some r ∧ T' = T) ∧ Rel N S' T' := by
  obtain ⟨E, ht, hm, hl, ha, hi, hs, hz⟩ := id h
  obtain ⟨hE, _, hv, hw⟩ := cx_of hm ha
  obtain ⟨d1, d2⟩ := day_eq hw
  obtain ⟨l1, l2⟩ := ha.1.2.2
  have e8 : fX4_loggedBy N (gi S 18 9) = some (nI (min 60 (dayN (T.1 67)))) := by
    unfold fX4_loggedBy
    rw [hv.2.2.2.2.2.2, d1, k_mn _ (by omega)]
  have e33 : ga T 67 33 = nI (min 60 (dayN (T.1 67))) := l1
  have e9 : gi S 18 9 = nI (dayN (T.1 67)) := by rw [hv.2.2.2.2.2.2, d1]
  unfold fX11_log fX12_log fX4_readDay
  rw [bd_s e8, e33, e9]
  have hM : min 60 (dayN (T.1 67)) ≤ 60 := Nat.min_le_left _ _
  have hM2 : min 60 (dayN (T.1 67)) ≤ dayN (T.1 67) := Nat.min_le_right _ _
  revert l2
  generalize min 60 (dayN (T.1 67)) = M at *
  intro l2
  rcases ix3 a1 (n := M) (by omega) with q | q | ⟨j, hj, rfl⟩
  · rw [if_pos q, in_lo q]
    exact ⟨_, S, T, ⟨rfl, rfl⟩, ⟨rfl, rfl⟩, h⟩
  · rw [if_neg q.1, if_pos q.2]
    have e : fX12_in N a1 0 (nI M - 1) = some 0 := by
      rcases Nat.eq_zero_or_pos M with rfl | hp
      · unfold fX12_in
        rw [if_neg q.1, if_pos]
        rw [Int32.lt_iff_toInt_lt]
        have h1 : ¬ a1.toInt < 0 := fun z => q.1 (Int32.lt_iff_toInt_lt.mpr (by simpa using z))
        have h2 : (nI 0 - 1).toInt = -1 := by decide
        omega
      · exact in_hi hp (by omega) rfl q.2
    rw [bd_s e]
    exact ⟨_, S, T, ⟨rfl, rfl⟩, ⟨rfl, rfl⟩, h⟩
  · rw [if_neg (nI_pos (by omega)), if_neg (nI_ge hj (by omega)), bd_s (in_ok hj (by omega) rfl), if_neg n10]
    rcases ix3 a2 (n := 3) (by omega) with q | q | ⟨w, hw3, rfl⟩
    · rw [if_pos q, in_lo q]
      exact ⟨_, S, T, ⟨rfl, rfl⟩, ⟨rfl, rfl⟩, h⟩
    · rw [if_neg q.1, if_neg (show ¬ a2 < 3 from fun z => by
        have z1 := Int32.lt_iff_toInt_lt.mp z
        have z2 := Int32.le_iff_toInt_le.mp q.2
        have z3 : (nI 3).toInt = (3 : Int32).toInt := rfl
        omega), bd_s (in_hi (b := 2) (n := 3) (by omega) (by omega) (by decide) q.2)]
      exact ⟨_, S, T, ⟨rfl, rfl⟩, ⟨rfl, rfl⟩, h⟩
    · rw [if_neg (nI_pos (by omega)), if_pos (show nI w < 3 from nI_lt (b := 3) hw3 (by omega)), bd_s (in_ok (b := 2) (n := 3) hw3 (by omega) (by decide)), if_neg n10]
      rw [nI_s1 (by omega), pk_sub (by omega), bd_s (plc (by omega)), nI_add, ck_in (by omega) (by omega), ga_nI (by omega)]
      rw [nI_s1 (by omega), pk_sub (by omega), show (3 : Int32) = nI 3 from rfl, pk_mul, show (34 : Int32) = nI 34 from rfl, nI_add, nI_add, ck_in (by omega) (by omega), ga_nI (by omega)]
      refine ⟨_, S, T, ⟨rfl, rfl⟩, ⟨?_, rfl⟩, h⟩
      rw [← l2 j w hj hw3]
theorem k_of : ∀ d, d < 7 → ∀ k, k < 3 → (3 * nI d) + nI k = nI (3 * d + k) := by decide +kernel
theorem m_of {N d : Nat} {T : SS} (h : d < 7) (k : Nat) (hk : k < 3) : fX12_of N T (nI d) (nI k) = some (T.1 66 (3 * d + k)) := by
  unfold fX12_of
  rw [k_of d h k hk, ck_in (by omega) (by omega), ga_nI (by omega)]
theorem s_thread {N : Nat} {S T : SS} (h : Rel N S T) (a1 a2 : Int32) : ∃ (v : Option Int32) (b : Int32) (T' : SS), fX11_thread N S a1 a2 = some v ∧ fX12_thread N T a1 a2 = some (T', b) ∧ fX12_thrown N T' = some (thR v) ∧ (∀ x, v = some x → x = b) ∧ Rel N S T' := by
  obtain ⟨E, ht, hm, hl, ha, hi, hs, hz⟩ := id h
  obtain ⟨hE, _, hv, hw⟩ := cx_of hm ha
  have hR : ∀ y, Rel N S (pj T 52 0 y) := fun y => Rel_c Sm.rf rfl (sm_pj (by simp [allM, tapeM, millM, lawM, actM, imgM, seenM, miscM])) h
  have hq : fX12_thread_j23 N a1 a2 1 T = some (pj T 52 0 1, 0) := rfl
  unfold fX11_thread fX12_thread fX12_thread_j22
  rw [hq]
  rcases end3 (N := N) hm a1 with ⟨e1, e2⟩ | ⟨d, hd, rfl, e1, e2⟩
  · rw [bd_s e1, bd_s e2]
    exact ⟨none, 0, _, rfl, rfl, rfl, (fun _ q => nomatch q), hR 1⟩
  rw [bd_s e1, bd_s e2, if_neg n10, if_neg n10]
  have h7 : d < 7 := by omega
  rcases ix3 a2 (n := 6) (by omega) with q | q | ⟨j, hj, rfl⟩
  · rw [if_pos q, bd_s (in_lo q)]
    exact ⟨none, 0, _, rfl, rfl, rfl, (fun _ q => nomatch q), hR 1⟩
  · rw [if_neg q.1, if_neg (show ¬ a2 ≤ 5 from fun z => by
        have z1 := Int32.le_iff_toInt_le.mp z
        have z2 := Int32.le_iff_toInt_le.mp q.2
        have z3 : (nI 6).toInt = 6 := by decide
        have z4 : (5 : Int32).toInt = 5 := by decide
        omega), bd_s (in_hi (b := 5) (n := 6) (by omega) (by omega) (by decide) q.2)]
    exact ⟨none, 0, _, rfl, rfl, rfl, (fun _ q => nomatch q), hR 1⟩
  · rw [if_neg (nI_pos (by omega)), if_pos (show nI j ≤ 5 from nI_le (b := 5) (by omega) (by omega)), bd_s (in_ok (b := 5) (n := 6) hj (by omega) (by decide)), if_neg n10]
    have g : ∀ k, (pj T 52 0 0).1 67 k = T.1 67 k := fun k => rfl
    have hd' := hv.2.1 d hd
    unfold fX12_thread_j23
    rw [lt_s9, if_neg (show ¬ gi (pj T 52 0 0) 52 0 = 1 from (by decide : ¬ (0 : Int32) = 1)), a0, a7, a14, a21, ck_in h7 (by omega), ck_in h7 (by omega), ck_in h7 (by omega), ck_in h7 (by omega), ck_in h7 (by omega), ck_in (by omega) (by omega), ck_in (by omega) (by omega), ck_in (by omega) (by omega), ck_in (by omega) (by omega), ga_nI (by omega), ga_nI (by omega), ga_nI (by omega), ga_nI (by omega), ga_nI (by omega), ga_nI (by omega), ga_nI (by omega), ga_nI (by omega), ga_nI (by omega), g, g, g, g]
    have hfi : ∀ x : Int32, (∀ y, some x = some y → y = x) := fun x y e => (Option.some.inj e).symm
    rcases (by omega : j = 0 ∨ j = 1 ∨ j = 2 ∨ j = 3 ∨ j = 4 ∨ j = 5) with rfl | rfl | rfl | rfl | rfl | rfl
    · refine ⟨some (S.1 19 d), T.1 67 d, _, rfl, rfl, rfl, ?_, hR 0⟩
      intro x e
      rw [← Option.some.inj e, hd'.1]
    · have e5 : ∃ v, S.1 5 d = nI v ∧ T.1 66 (3 * d + 1) = nI v := by
        obtain ⟨v, _, _, x1, x2⟩ := ((hm.2.2.2 (by omega)).2.2.2 d hd).2.1
        exact ⟨v, x1, x2⟩
      obtain ⟨v, x1, x2⟩ := e5
      have e6 : fX12_of N (pj T 52 0 0) (nI d) 1 = some (nI v) := by
        rw [show (1 : Int32) = nI 1 from rfl, m_of h7 1 (by omega), ← x2]
        rfl
      rw [bd_s e6]
      refine ⟨some (S.1 5 d), nI v, _, rfl, rfl, rfl, ?_, hR 0⟩
      intro x e
      rw [← Option.some.inj e, x1]
    · refine ⟨some (S.1 20 d), T.1 67 (7 + d), _, rfl, rfl, rfl, ?_, hR 0⟩
      intro x e
      rw [← Option.some.inj e, hd'.2.1]
    · have e3 : fX12_isSold N (pj T 52 0 0) (nI d) = some (i01 (sdF (T.1 67) d)) := m_sold (T := pj T 52 0 0) hE hw hd
      rw [bd_s (c_sold hE hv hw hd), bd_s e3]
      refine ⟨some (i01 (sdF (T.1 67) d)), i01 (sdF (T.1 67) d), pj T 52 0 0, ?_, ?_, ?_, ?_, hR 0⟩
      · cases sdF (T.1 67) d <;> rfl
      · cases sdF (T.1 67) d <;> rfl
      · rfl
      · exact fun x e => (Option.some.inj e).symm
    · refine ⟨some (S.1 21 d), T.1 67 (14 + d), _, rfl, rfl, rfl, ?_, hR 0⟩
      intro x e
      rw [← Option.some.inj e, hd'.2.2.1]
    · refine ⟨some (S.1 22 d), T.1 67 (21 + d), _, rfl, rfl, rfl, ?_, hR 0⟩
      intro x e
      rw [← Option.some.inj e, hd'.2.2.2]
