/-! attempt, pull, sell, dye, give -/
theorem relE_of {N : Nat} {S T : SS} (h : Rel N S T) : ∃ E, RelE N E S T := h
theorem relE_ex {N E : Nat} {S T : SS} (h : RelE N E S T) : Rel N S T := ⟨E, h⟩
theorem relE_cx {N E : Nat} {S T : SS} (h : RelE N E S T) : Cx E S T := cx_of h.2.1 h.2.2.2.1
theorem s_attempt {N : Nat} (hN : 10000 ≤ N) {S T : SS} (h : Rel N S T) (a1 a2 : Int32) : ∃ (r : Int32) (S' T' : SS), (fX11_attempt N S a1 a2 = some (S', r)) ∧ (fX12_attempt N T a1 a2 = some (T', r)) ∧ Rel N S' T' := by
  obtain ⟨E, hR⟩ := relE_of h
  obtain ⟨hE, _, hv, hw⟩ := relE_cx hR
  have hm := hR.2.1
  have href : ∀ w, w < 5 → ∃ S' T', (b2 (fX11_refuse N S (nI w)) fun S12 r11 => some (S12, r11)) = some (S', -1) ∧ fX12_attempt_j64 N a1 a2 (nI w) T = some (T', -1) ∧ Rel N S' T' := fun w hw5 => by
    obtain ⟨S', T', r1, r2, r3⟩ := refs hw5 hR
    refine ⟨S', T', by rw [b2_s r1], ?_, E, r3⟩
    unfold fX12_attempt_j64
    rw [b2_s r2, if_neg n10]
  unfold fX11_attempt fX12_attempt fX10_tryRefusal fX12_attempt_j17
  rcases end3 (N := N) hm a1 with ⟨e1, e2⟩ | ⟨a, ha, rfl, e1, e2⟩
  · rw [bd_s e1, bd_s e2, if_pos rfl, if_pos rfl, bd_s rfl, if_neg (by decide)]
    obtain ⟨S', T', r1, r2, r3⟩ := href 0 (by omega)
    exact ⟨-1, S', T', r1, r2, r3⟩
  rcases end3 (N := N) hm a2 with ⟨f1, f2⟩ | ⟨b, hb, rfl, f1, f2⟩
  · rw [bd_s e1, bd_s e2, if_neg n10, if_neg n10, bd_s f1, bd_s f2, if_pos rfl, if_pos rfl, bd_s rfl, if_neg (by decide)]
    obtain ⟨S', T', r1, r2, r3⟩ := href 0 (by omega)
    exact ⟨-1, S', T', r1, r2, r3⟩
  rw [bd_s e1, bd_s e2, if_neg n10, if_neg n10, bd_s f1, bd_s f2, if_neg n10, if_neg n10]
  by_cases hab : nI a = nI b
  · rw [if_pos hab, if_pos hab, bd_s rfl, if_neg (by decide)]
    obtain ⟨S', T', r1, r2, r3⟩ := href 1 (by omega)
    exact ⟨-1, S', T', r1, r2, r3⟩
  rw [if_neg hab, if_neg hab, bd_s (c_open (by omega) hE hv hw ha hb), bd_s (m_open (by omega) hE hw ha hb)]
  cases ho : opF (T.1 67) a b
  · rw [ifi0, ifi0, bd_s rfl, if_neg (by decide)]
    obtain ⟨S', T', r1, r2, r3⟩ := href 2 (by omega)
    exact ⟨-1, S', T', r1, r2, r3⟩
  rw [ifi1, ifi1]
  have hp : 0 < E := by omega
  obtain ⟨_, _, ⟨Hg, _, _, g1, g2⟩, _⟩ := hm.2.2.2 hp
  rw [hv.2.2.2.1, g1, show ga T 67 29 = T.1 67 29 from rfl, show ga T 65 2 = nI Hg from g2]
  by_cases hg : T.1 67 29 < nI Hg
  · rw [if_pos hg, if_pos hg, bd_s rfl, if_pos rfl]
    obtain ⟨S1, T1, k1, k2, k3, k4, k5, k6⟩ := keeps hN hR
    obtain ⟨_, _, hv1, hw1⟩ := relE_cx k3
    obtain ⟨F, H, G, hK, hM⟩ := km_of hp k3.2.1 k3.2.2.1
    have e67 : T1.1 67 = T.1 67 := k6.1 67 (by decide) (by decide)
    have ho1 : opF (T1.1 67) a b = true := by rw [e67]; exact ho
    obtain ⟨S2, z1, z2, z3⟩ := c_try (by omega) (by omega) (by omega) hK hv1 hw1 ha hb ho1
    obtain ⟨T2, y1, y2, y3⟩ := m_try (by omega) hM hw1 ha hb ho1
    unfold fX12_attempt_j64
    rw [bd_s k1, b2_s z1, b2_s ref_no, if_pos rfl, bd_s k2, b2_s y1]
    refine ⟨i01 (gwF G (T1.1 67) (S1.1 5) a b (nI (tw (T1.1 67) a).length)), S2, T2, ?_, rfl, E, rel_act k3 z2 y2 (by rw [y3]; exact z3) (by rw [y3]; exact (wf_try hE hw1 ha hb ho1).1) (fun j hj => by rw [y3]; exact try_hi (by omega) (by omega) j (by omega))⟩
    cases gwF G (T1.1 67) (S1.1 5) a b (nI (tw (T1.1 67) a).length) <;> rfl
  · rw [if_neg hg, if_neg hg, bd_s rfl, if_neg (by decide)]
    obtain ⟨S', T', r1, r2, r3⟩ := href 3 (by omega)
    exact ⟨-1, S', T', r1, r2, r3⟩
theorem s_pull {N : Nat} (hN : 10000 ≤ N) {S T : SS} (h : Rel N S T) (a1 : Int32) : ∃ (r : Int32) (S' T' : SS), (fX11_pull N S a1 = some (S', r)) ∧ (fX12_pull N T a1 = some (T', r)) ∧ Rel N S' T' := by
  obtain ⟨E, hR⟩ := relE_of h
  obtain ⟨hE, _, hv, hw⟩ := relE_cx hR
  have hm := hR.2.1
  have href : ∀ w, w < 5 → ∃ S' T', (b2 (fX11_refuse N S (nI w)) fun S12 r11 => some (S12, r11)) = some (S', -1) ∧ fX12_pull_j38 N a1 (nI w) T = some (T', -1) ∧ Rel N S' T' := fun w hw5 => by
    obtain ⟨S', T', r1, r2, r3⟩ := refs hw5 hR
    refine ⟨S', T', by rw [b2_s r1], ?_, E, r3⟩
    unfold fX12_pull_j38
    rw [b2_s r2, if_neg n10]
  unfold fX11_pull fX12_pull fX10_pullRefusal
  rcases end3 (N := N) hm a1 with ⟨e1, e2⟩ | ⟨d, hd, rfl, e1, e2⟩
  · rw [bd_s e1, bd_s e2, if_pos rfl, if_pos rfl, bd_s rfl, if_neg (by decide)]
    obtain ⟨S', T', r1, r2, r3⟩ := href 0 (by omega)
    exact ⟨-1, S', T', r1, r2, r3⟩
  rw [bd_s e1, bd_s e2, if_neg n10, if_neg n10, bd_s (c_sold hE hv hw hd), bd_s (m_sold hE hw hd), bd_s (c_knot hE hv hd), bd_s (m_knot hE hd)]
  cases hs : sdF (T.1 67) d
  · rw [ifi0, ifi0]
    cases hk : knF (T.1 67) d
    · rw [ifi0, ifi0, bd_s rfl, if_neg (by decide)]
      obtain ⟨S', T', r1, r2, r3⟩ := href 3 (by omega)
      exact ⟨-1, S', T', r1, r2, r3⟩
    · rw [ifi1, ifi1, bd_s rfl, if_pos rfl]
      obtain ⟨S1, T1, k1, k2, k3, k4, k5, k6⟩ := keeps hN hR
      obtain ⟨_, _, hv1, hw1⟩ := relE_cx k3
      obtain ⟨S2, z1, z2, z3⟩ := c_cut (N := N) hE hv1 hw1 hd
      obtain ⟨T2, y1, y2, y3⟩ := m_cut (N := N) hE hw1 hd
      unfold fX12_pull_j38
      rw [bd_s k1, b2_s z1, b2_s ref_no, if_pos rfl, bd_s k2, b2_s y1]
      exact ⟨_, S2, T2, rfl, rfl, E, rel_act k3 (z2.mono (by decide)) (y2.mono (by decide)) (by rw [y3]; exact z3) (by rw [y3]; exact wf_cutF hE hw1 hd) (fun j hj => by rw [y3]; exact cut_32 hE hw1 hd j (by omega))⟩
  · rw [ifi1, ifi1, bd_s rfl, if_neg (by decide)]
    obtain ⟨S', T', r1, r2, r3⟩ := href 2 (by omega)
    exact ⟨-1, S', T', r1, r2, r3⟩
theorem coin_eq {E : Nat} {m : Nat → Int32} (hw : wfL E m) : ∃ v, v ≤ 9999 ∧ m 31 = nI v := hw.2.2.2.2.2.1
theorem s_give {N : Nat} (hN : 10000 ≤ N) {S T : SS} (h : Rel N S T) (a1 : Int32) : ∃ (r : Int32) (S' T' : SS), (fX11_give N S a1 = some (S', r)) ∧ (fX12_give N T a1 = some (T', r)) ∧ Rel N S' T' := by
  obtain ⟨E, hR⟩ := relE_of h
  obtain ⟨hE, _, hv, hw⟩ := relE_cx hR
  have hm := hR.2.1
  have href : ∀ w, w < 5 → ∃ S' T', (b2 (fX11_refuse N S (nI w)) fun S12 r11 => some (S12, r11)) = some (S', -1) ∧ fX12_give_j42 N a1 (nI w) T = some (T', -1) ∧ Rel N S' T' := fun w hw5 => by
    obtain ⟨S', T', r1, r2, r3⟩ := refs hw5 hR
    refine ⟨S', T', by rw [b2_s r1], ?_, E, r3⟩
    unfold fX12_give_j42
    rw [b2_s r2, if_neg n10]
  unfold fX11_give fX12_give fX11_give_j42 fX12_give_j37
  rcases there2 (N := N) hm with ⟨_, e1, e2⟩ | ⟨hp, e1, e2⟩
  · rw [bd_s e1, if_pos rfl, if_pos e2]
    obtain ⟨S', T', r1, r2, r3⟩ := href 0 (by omega)
    exact ⟨-1, S', T', r1, r2, r3⟩
  rw [bd_s e1, if_neg n10, if_neg e2]
  obtain ⟨v, v1, v2⟩ := coin_eq hw
  have e31 : ga T 67 31 = nI v := v2
  have e8 : gi S 18 8 = nI v := hv.2.2.2.2.2.1.trans v2
  have hbad : (a1 < 1 ∨ 50 < a1) → fX12_in N a1 1 50 = some 0 := fun q => by
    unfold fX12_in
    by_cases q1 : a1 < 1
    · rw [if_pos q1]
    · rw [if_neg q1]
      rcases q with q | q
      · exact absurd q q1
      · rw [if_pos q]
  by_cases q1 : a1 < 1
  · rw [if_pos q1, bd_s (hbad (Or.inl q1)), if_pos rfl]
    obtain ⟨S', T', r1, r2, r3⟩ := href 1 (by omega)
    exact ⟨-1, S', T', r1, r2, r3⟩
  by_cases q2 : 50 < a1
  · rw [if_neg q1, if_pos q2, bd_s (hbad (Or.inr q2)), if_pos rfl]
    obtain ⟨S', T', r1, r2, r3⟩ := href 1 (by omega)
    exact ⟨-1, S', T', r1, r2, r3⟩
  have hin : fX12_in N a1 1 50 = some 1 := by
    unfold fX12_in
    rw [if_neg q1, if_neg q2]
  obtain ⟨n, n1, rfl⟩ : ∃ n, n ≤ 50 ∧ a1 = nI n := by
    rcases ix3 a1 (n := 51) (by omega) with q | q | ⟨j, hj, e⟩
    · exfalso
      apply q1
      rw [Int32.lt_iff_toInt_lt] at q ⊢
      have z3 : (1 : Int32).toInt = 1 := by decide
      have z4 : (0 : Int32).toInt = 0 := by decide
      omega
    · exfalso
      apply q2
      have q' := q.2
      rw [Int32.le_iff_toInt_le] at q'
      rw [Int32.lt_iff_toInt_lt]
      have z3 : (50 : Int32).toInt = 50 := by decide
      have z4 : (nI 51).toInt = 51 := by decide
      omega
    · exact ⟨j, by omega, e⟩
  rw [if_neg q1, if_neg q2, bd_s hin, if_neg n10, e8, e31, nI_add]
  by_cases hc : v + n ≤ 9999
  · have hc' : nI (v + n) ≤ (9999 : Int32) := nI_le (b := 9999) hc (by omega)
    rw [if_pos hc', if_pos hc']
    obtain ⟨S1, T1, k1, k2, k3, k4, k5, k6⟩ := keeps hN hR
    obtain ⟨_, _, hv1, hw1⟩ := relE_cx k3
    have e67 : T1.1 67 = T.1 67 := k6.1 67 (by decide) (by decide)
    have e31' : ga T1 67 31 = nI v := by
      show T1.1 67 31 = nI v
      rw [e67, v2]
    have e8' : gi S1 18 8 = nI v := by
      rw [hv1.2.2.2.2.2.1, e67, v2]
    unfold fX12_give_j42
    rw [bd_s k1, lt_s9, b2_s ref_no, if_pos rfl, bd_s k2, lt_s9, e8', e31', nI_add]
    have hr : (pa T1 67 31 (nI (v + n))).1 67 = upd (T1.1 67) 31 (nI (v + n)) := by
      rw [row_pa, if_pos rfl]
      rfl
    refine ⟨nI (v + n), _, _, rfl, rfl, E, rel_act k3 (Fr.pj (by simp)) (Fr.pa (by simp)) (by rw [hr]; exact hv1.slot hE (j := 8) (by omega) (by omega)) ?_ (fun j hj => by rw [hr, pk_un (by omega)])⟩
    rw [hr]
    exact wf_hi hE hw1 (fun j hj => pk_un (by omega)) ⟨_, hc, pk_us⟩ (by rw [pk_un (by omega)]; exact hw1.2.2.2.2.2.2)
  · have hc' : ¬ nI (v + n) ≤ (9999 : Int32) := nI_ge (a := 9999) (by omega) (by omega)
    rw [if_neg hc', if_neg hc']
    obtain ⟨S', T', r1, r2, r3⟩ := href 1 (by omega)
    exact ⟨-1, S', T', r1, r2, r3⟩
theorem s_dye {N : Nat} (hN : 10000 ≤ N) {S T : SS} (h : Rel N S T) (a1 a2 : Int32) : ∃ (r : Int32) (S' T' : SS), (fX11_dye N S a1 a2 = some (S', r)) ∧ (fX12_dye N T a1 a2 = some (T', r)) ∧ Rel N S' T' := by
  obtain ⟨E, hR⟩ := relE_of h
  obtain ⟨hE, _, hv, hw⟩ := relE_cx hR
  have hm := hR.2.1
  have href : ∀ w, w < 5 → ∃ S' T', (b2 (fX11_refuse N S (nI w)) fun S12 r11 => some (S12, r11)) = some (S', -1) ∧ fX12_dye_j67 N a1 a2 (nI w) T = some (T', -1) ∧ Rel N S' T' := fun w hw5 => by
    obtain ⟨S', T', r1, r2, r3⟩ := refs hw5 hR
    refine ⟨S', T', by rw [b2_s r1], ?_, E, r3⟩
    unfold fX12_dye_j67
    rw [b2_s r2, if_neg n10]
  unfold fX11_dye fX12_dye fX11_dyeRefusal fX12_dye_j47
  rcases end3 (N := N) hm a1 with ⟨e1, e2⟩ | ⟨d, hd, rfl, e1, e2⟩
  · rw [bd_s e1, bd_s e2, if_pos rfl, if_pos rfl, bd_s rfl, if_neg (by decide)]
    obtain ⟨S', T', r1, r2, r3⟩ := href 0 (by omega)
    exact ⟨-1, S', T', r1, r2, r3⟩
  rw [bd_s e1, bd_s e2, if_neg n10, if_neg n10]
  rcases ix3 a2 (n := 21) (by omega) with q | q | ⟨c, hc, rfl⟩
  · rw [if_pos q, bd_s (in_lo q), if_pos rfl, bd_s rfl, if_neg (by decide)]
    obtain ⟨S', T', r1, r2, r3⟩ := href 1 (by omega)
    exact ⟨-1, S', T', r1, r2, r3⟩
  · rw [if_neg q.1, if_neg (show ¬ a2 ≤ 20 from fun z => by
        have z1 := Int32.le_iff_toInt_le.mp z
        have z2 := Int32.le_iff_toInt_le.mp q.2
        have z3 : (nI 21).toInt = 21 := by decide
        have z4 : (20 : Int32).toInt = 20 := by decide
        omega), bd_s (in_hi (b := 20) (n := 21) (by omega) (by omega) (by decide) q.2), if_pos rfl, bd_s rfl, if_neg (by decide)]
    obtain ⟨S', T', r1, r2, r3⟩ := href 1 (by omega)
    exact ⟨-1, S', T', r1, r2, r3⟩
  rw [if_neg (nI_pos (by omega)), if_pos (show nI c ≤ 20 from nI_le (b := 20) (by omega) (by omega)), bd_s (in_ok (b := 20) (n := 21) hc (by omega) (by decide)), if_neg n10, bd_s (c_loose hE hv hw hd), bd_s (m_loose hE hw hd)]
  cases hlo : loF (T.1 67) d
  · rw [ifi0, ifi0, bd_s rfl, if_neg (by decide)]
    obtain ⟨S', T', r1, r2, r3⟩ := href 2 (by omega)
    exact ⟨-1, S', T', r1, r2, r3⟩
  obtain ⟨v, v1, v2⟩ := coin_eq hw
  have e31 : ga T 67 31 = nI v := v2
  have e8 : gi S 18 8 = nI v := hv.2.2.2.2.2.1.trans v2
  rw [ifi1, ifi1, ck_in (by omega) (by omega), a0, ck_in (by omega) (by omega), ga_nI (by omega), ga_nI (by omega), (hv.2.1 d hd).1, e31, e8]
  by_cases h1 : T.1 67 d = nI c
  · rw [if_pos h1, if_pos h1, bd_s rfl, if_neg (by decide)]
    obtain ⟨S', T', r1, r2, r3⟩ := href 2 (by omega)
    exact ⟨-1, S', T', r1, r2, r3⟩
  rw [if_neg h1, if_neg h1]
  by_cases h2 : 2 ≤ v
  · have h2' : (2 : Int32) ≤ nI v := nI_le (a := 2) h2 (by omega)
    rw [if_pos h2', if_pos h2', bd_s rfl, if_pos rfl]
    obtain ⟨S1, T1, k1, k2, k3, k4, k5, k6⟩ := keeps hN hR
    obtain ⟨_, _, hv1, hw1⟩ := relE_cx k3
    have e67 : T1.1 67 = T.1 67 := k6.1 67 (by decide) (by decide)
    unfold fX12_dye_j67
    rw [bd_s k1, b2_s ref_no, if_pos rfl, bd_s k2, ck_in (by omega) (by omega), lt_s9, ck_in (by omega) (by omega), lt_s9, lt_s9, a0, ck_in (by omega) (by omega), lt_s9, ck_in (by omega) (by omega), lt_s9, lt_s9, ga_nI (by omega), ga_nI (by omega), (hv1.2.1 d hd).1]
    have g8 : gi (pa S1 19 (nI d) (nI c)) 18 8 = nI v := by
      have : gi (pa S1 19 (nI d) (nI c)) 18 8 = gi S1 18 8 := rfl
      rw [this, hv1.2.2.2.2.2.1, e67, v2]
    have g31 : ga (pa T1 67 (nI d) (nI c)) 67 31 = nI v := by
      show (pa T1 67 (nI d) (nI c)).1 67 31 = nI v
      rw [row_pa, if_pos rfl, nI_clamp (by omega), pk_un (by omega), e67, v2]
    rw [g8, g31, show nI v - 2 = nI (v - 2) from pk_sub (b := 2) h2]
    have hr : (pa (pa T1 67 (nI d) (nI c)) 67 31 (nI (v - 2))).1 67 = upd (upd (T1.1 67) d (nI c)) 31 (nI (v - 2)) := by
      rw [row_pa, if_pos rfl, row_pa, if_pos rfl, nI_clamp (by omega)]
      rfl
    have hl : Lv E 18 (pa S1 (18 + 1) (nI d) (nI c)) (upd (T1.1 67) (7 * (1 - 1) + d) (nI c)) := hv1.cell hE (by omega) (by omega) hd
    have hl2 := hl.slot (v := nI (v - 2)) hE (j := 8) (by omega) (by omega)
    have hw2 : wfL E (upd (T1.1 67) d (nI c)) := wf_col hw1 (fun x hx => by
      by_cases e : x = d
      · rw [e, pk_us]
        exact ⟨c, by omega, rfl⟩
      · rw [pk_un e]
        exact (hw1.1 x hx).1) (fun j hj => pk_un (by omega))
    refine ⟨T1.1 67 d, _, _, rfl, rfl, E, rel_act k3 ((Fr.pa (by simp)).tr (Fr.pj (by simp))) ((Fr.pa (by simp)).tr (Fr.pa (by simp))) ?_ ?_ (fun j hj => by rw [hr, pk_un (by omega), pk_un (by omega)])⟩
    · rw [hr]
      have e : 7 * (1 - 1) + d = d := by omega
      rw [e] at hl2
      exact hl2
    · rw [hr]
      exact wf_hi hE hw2 (fun j hj => pk_un (by omega)) ⟨_, by omega, pk_us⟩ (by rw [pk_un (by omega)]; exact hw2.2.2.2.2.2.2)
  · have h2' : ¬ (2 : Int32) ≤ nI v := nI_ge (b := 2) (by omega) (by omega)
    rw [if_neg h2', if_neg h2', bd_s rfl, if_neg (by decide)]
    obtain ⟨S', T', r1, r2, r3⟩ := href 3 (by omega)
    exact ⟨-1, S', T', r1, r2, r3⟩
