/-! odds -/
theorem cp_at {S : SS} {k0 k1 : Nat} {d : Nat} (h : d < 7) : (cp S k0 0 k1 0 7).1 k1 d = S.1 k0 d := by
  unfold cp
  rw [row_pr, if_pos rfl]
  exact sb_cpy0 (n := 7) h
theorem Fr.pr {X : List Nat} {S : SS} {k : Nat} {f : Nat → Int32} (hk : k ∈ X) : Fr X S (pr S k f) := ⟨fun a ha => by
  rw [row_pr, if_neg (fun q => ha (by rw [q]; exact hk))], rfl⟩
theorem Fr.cp {X : List Nat} {S : SS} {k0 k1 : Nat} {sp dp n : Int32} (hk : k1 ∈ X) : Fr X S (cp S k0 sp k1 dp n) := Fr.pr hk
theorem c_copy {E N : Nat} {S : SS} {m : Nat → Int32} (hE : E ≤ 7) (hv : Lv E 18 S m) : ∃ S2, fX8_copyFrom N S 30 18 = some S2 ∧ Fr [30, 31, 32, 33, 34] S S2 ∧ Lv E 30 S2 m := by
  unfold fX8_copyFrom
  simp only [lt_s9]
  refine ⟨_, rfl, ?_, ?_⟩
  · exact (((((((((Fr.cp (by decide)).tr (Fr.cp (by decide))).tr (Fr.cp (by decide))).tr (Fr.cp (by decide))).tr (Fr.pj (by decide))).tr (Fr.pj (by decide))).tr (Fr.pj (by decide))).tr (Fr.pj (by decide))).tr (Fr.pj (by decide))).tr (Fr.pj (by decide))
  · obtain ⟨h1, h2, h3, h4, h5, h6, h7⟩ := hv
    refine ⟨h1, fun d hd => ?_, h3, h4, h5, h6, h7⟩
    obtain ⟨g1, g2, g3, g4⟩ := h2 d hd
    have d7 : d < 7 := by omega
    refine ⟨Eq.trans ?_ g1, Eq.trans ?_ g2, Eq.trans ?_ g3, Eq.trans ?_ g4⟩
    · exact cp_at (S := S) (k0 := 19) (k1 := 31) d7
    · exact cp_at (S := cp S 19 0 31 0 7) (k0 := 20) (k1 := 32) d7
    · exact cp_at (S := cp (cp S 19 0 31 0 7) 20 0 32 0 7) (k0 := 21) (k1 := 33) d7
    · exact cp_at (S := cp (cp (cp S 19 0 31 0 7) 20 0 32 0 7) 21 0 33 0 7) (k0 := 22) (k1 := 34) d7
/-! the reference's rows put aside -/
theorem k_33 : ∀ e, e < 3 → ∀ j, j < 33 → 33 * nI e + nI j = nI (33 * e + j) := by decide +kernel
theorem put_l {N e : Nat} (he : e < 3) {T0 : SS} : ∀ (j i n : Nat) (T : SS), Fr [71] T0 T → (∀ q, T.1 71 q = if 33 * e ≤ q ∧ q < 33 * e + i then T0.1 67 (q - 33 * e) else T0.1 71 q) → i + j = 33 → j < n → ∃ T2, fX12_putAside_l2 N n (nI e) (nI i) T = some T2 ∧ Fr [71] T0 T2 ∧ ∀ q, T2.1 71 q = if 33 * e ≤ q ∧ q < 33 * e + 33 then T0.1 67 (q - 33 * e) else T0.1 71 q := by
  intro j
  induction j with
  | zero =>
    intro i n T fT hq hi hn
    obtain ⟨n, rfl⟩ : ∃ q, n = q + 1 := ⟨n - 1, by omega⟩
    unfold fX12_putAside_l2
    have : i = 33 := by omega
    subst this
    rw [if_pos (by decide)]
    exact ⟨T, rfl, fT, hq⟩
  | succ j ih =>
    intro i n T fT hq hi hn
    obtain ⟨n, rfl⟩ : ∃ q, n = q + 1 := ⟨n - 1, by omega⟩
    unfold fX12_putAside_l2
    rw [if_neg (show ¬ (33 : Int32) ≤ nI i from nI_ge (b := 33) (by omega) (by omega)), k_33 e he i (by omega), ck_in (by omega) (by omega), ck_in (by omega) (by omega), lt_s9, lt_s9, nI_1, ga_nI (by omega)]
    refine ih (i + 1) n _ (fT.tr (Fr.pa (by decide))) (fun q => ?_) (by omega) (by omega)
    rw [row_pa, if_pos rfl, nI_clamp (by omega), fT.row (k := 67) (by decide)]
    by_cases h1 : q = 33 * e + i
    · subst h1
      rw [pk_us, if_pos (by omega), show 33 * e + i - 33 * e = i by omega]
    · rw [pk_un h1, hq q]
      by_cases h2 : 33 * e ≤ q ∧ q < 33 * e + i
      · rw [if_pos h2, if_pos (by omega)]
      · rw [if_neg h2, if_neg (by omega)]
theorem put_a {N e : Nat} (hN : 40 ≤ N) (he : e < 3) (T : SS) : ∃ T2, fX12_putAside N T (nI e) = some T2 ∧ Fr [71] T T2 ∧ ∀ q, T2.1 71 q = if 33 * e ≤ q ∧ q < 33 * e + 33 then T.1 67 (q - 33 * e) else T.1 71 q := put_l he 33 0 N T Fr.rf (fun q => by rw [if_neg (by omega)]) (by omega) (by omega)
theorem take_l {N e : Nat} (he : e < 3) {T0 : SS} : ∀ (j i n : Nat) (T : SS), Fr [67] T0 T → (∀ q, T.1 67 q = if q < i then T0.1 71 (33 * e + q) else T0.1 67 q) → i + j = 33 → j < n → ∃ T2, fX12_takeBack_l2 N n (nI e) (nI i) T = some T2 ∧ Fr [67] T0 T2 ∧ ∀ q, T2.1 67 q = if q < 33 then T0.1 71 (33 * e + q) else T0.1 67 q := by
  intro j
  induction j with
  | zero =>
    intro i n T fT hq hi hn
    obtain ⟨n, rfl⟩ : ∃ q, n = q + 1 := ⟨n - 1, by omega⟩
    unfold fX12_takeBack_l2
    have : i = 33 := by omega
    subst this
    rw [if_pos (by decide)]
    exact ⟨T, rfl, fT, hq⟩
  | succ j ih =>
    intro i n T fT hq hi hn
    obtain ⟨n, rfl⟩ : ∃ q, n = q + 1 := ⟨n - 1, by omega⟩
    unfold fX12_takeBack_l2
    rw [if_neg (show ¬ (33 : Int32) ≤ nI i from nI_ge (b := 33) (by omega) (by omega)), k_33 e he i (by omega), ck_in (by omega) (by omega), ck_in (by omega) (by omega), lt_s9, lt_s9, nI_1, ga_nI (by omega)]
    refine ih (i + 1) n _ (fT.tr (Fr.pa (by decide))) (fun q => ?_) (by omega) (by omega)
    rw [row_pa, if_pos rfl, nI_clamp (by omega), fT.row (k := 71) (by decide)]
    by_cases h1 : q = i
    · subst h1
      rw [pk_us, if_pos (by omega)]
    · rw [pk_un h1, hq q]
      by_cases h2 : q < i
      · rw [if_pos h2, if_pos (by omega)]
      · rw [if_neg h2, if_neg (by omega)]
theorem take_b {N e : Nat} (hN : 40 ≤ N) (he : e < 3) (T : SS) : ∃ T2, fX12_takeBack N T (nI e) = some T2 ∧ Fr [67] T T2 ∧ ∀ q, T2.1 67 q = if q < 33 then T.1 71 (33 * e + q) else T.1 67 q := take_l he 33 0 N T Fr.rf (fun q => by rw [if_neg (by omega)]) (by omega) (by omega)
/-! colours alone changed -/
theorem wf_col {E : Nat} {m m' : Nat → Int32} (hw : wfL E m) (hc : ∀ d, d < E → ∃ v, v ≤ 20 ∧ m' d = nI v) (h7 : ∀ j, 7 ≤ j → m' j = m j) : wfL E m' := by
  obtain ⟨h1, h2, h3, h4, h5, h6, h8⟩ := hw
  have e14 : (fun d => m' (14 + d)) = fun d => m (14 + d) := funext fun d => h7 _ (by omega)
  have e21 : (fun d => m' (21 + d)) = fun d => m (21 + d) := funext fun d => h7 _ (by omega)
  refine ⟨fun d hd => ⟨hc d hd, ?_⟩, ?_, ?_, ?_, ?_, ?_, ?_⟩
  · rw [h7 _ (by omega)]
    exact (h1 d hd).2
  · rw [e14, e21, h7 28 (by omega)]
    exact h2
  · rw [h7 28 (by omega)]
    exact h3
  · rw [h7 29 (by omega)]
    exact h4
  · rw [h7 30 (by omega)]
    exact h5
  · rw [h7 31 (by omega)]
    exact h6
  · rw [h7 32 (by omega)]
    exact h8
theorem tw_c {m m' : Nat → Int32} (h7 : ∀ j, 7 ≤ j → m' j = m j) (d : Nat) : tw m' d = tw m d ∧ hdF m' d = hdF m d := by
  have e14 : (fun d => m' (14 + d)) = fun d => m (14 + d) := funext fun d => h7 _ (by omega)
  have e21 : (fun d => m' (21 + d)) = fun d => m (21 + d) := funext fun d => h7 _ (by omega)
  unfold tw hdF
  rw [e14, e21]
  exact ⟨rfl, rfl⟩
theorem op_c {m m' : Nat → Int32} (h7 : ∀ j, 7 ≤ j → m' j = m j) (a b : Nat) : opF m' a b = opF m a b := by
  unfold opF sdF
  rw [(tw_c h7 a).2, h7 28 (by omega), h7 (14 + a) (by omega), h7 (21 + b) (by omega)]
theorem k_fade : ∀ v, v ≤ 20 → ∀ f, f ≤ 9 → mx 0 (nI v - nI f) = nI (v - f) := by decide +kernel
theorem c_fade {E N k : Nat} {S : SS} {m : Nat → Int32} {F d : Nat} (hE : E ≤ 7) (hv : Lv E k S m) (hw : wfL E m) (hd : d < E) (hF : F ≤ 9) : ∃ S2, fX8_fadeBy N S k (nI d) (nI F) = some S2 ∧ Fr [k + 1] S S2 ∧ Lv E k S2 (upd m d (nI (clF m d - F))) := by
  obtain ⟨c1, c2⟩ := clF_eq hw hd
  unfold fX8_fadeBy
  rw [ck_in (by omega) (by omega), ck_in (by omega) (by omega), lt_s9, ga_nI (by omega), (hv.2.1 d hd).1, c1, k_fade _ c2 F hF]
  refine ⟨_, rfl, Fr.pa (by simp), ?_⟩
  obtain ⟨h1, h2, h3, h4, h5, h6, h7⟩ := hv
  have e0 : (pa S (k + 1) (nI d) (nI (clF m d - F))).1 k = S.1 k := by
    rw [row_pa, if_neg (by omega)]
  have e2 : (pa S (k + 1) (nI d) (nI (clF m d - F))).1 (k + 2) = S.1 (k + 2) := by
    rw [row_pa, if_neg (by omega)]
  have e3 : (pa S (k + 1) (nI d) (nI (clF m d - F))).1 (k + 3) = S.1 (k + 3) := by
    rw [row_pa, if_neg (by omega)]
  have e4 : (pa S (k + 1) (nI d) (nI (clF m d - F))).1 (k + 4) = S.1 (k + 4) := by
    rw [row_pa, if_neg (by omega)]
  have e1 : (pa S (k + 1) (nI d) (nI (clF m d - F))).1 (k + 1) = upd (S.1 (k + 1)) d (nI (clF m d - F)) := by
    rw [row_pa, if_pos rfl, nI_clamp (by omega)]
  unfold Lv gi at *
  rw [e0, e1, e2, e3, e4, pk_un (j := 28) (by omega), pk_un (j := 29) (by omega), pk_un (j := 30) (by omega), pk_un (j := 31) (by omega), pk_un (j := 32) (by omega)]
  refine ⟨h1, fun q hq => ?_, h3, h4, h5, h6, h7⟩
  rw [pk_un (j := 7 + q) (by omega), pk_un (j := 14 + q) (by omega), pk_un (j := 21 + q) (by omega)]
  refine ⟨?_, (h2 q hq).2⟩
  by_cases hqd : q = d
  · subst hqd
    rw [pk_us, pk_us]
  · rw [pk_un hqd, pk_un hqd]
    exact (h2 q hq).1
theorem wf_fade {E : Nat} {m : Nat → Int32} {F d : Nat} (hE : E ≤ 7) (hw : wfL E m) (hd : d < E) : wfL E (upd m d (nI (clF m d - F))) := by
  refine wf_col hw (fun q hq => ?_) (fun j hj => pk_un (by omega))
  by_cases hqd : q = d
  · subst hqd
    rw [pk_us]
    have := (clF_eq hw hd).2
    exact ⟨_, by omega, rfl⟩
  · rw [pk_un hqd]
    exact (hw.1 q hq).1
theorem m_fade {E N : Nat} {T : SS} {F d : Nat} (hE : E ≤ 7) (hF1 : T.1 65 1 = nI F) (hw : wfL E (T.1 67)) (hd : d < E) (hF : F ≤ 9) : ∃ T2, fX12_fadeNow N T (nI d) = some T2 ∧ Fr [67] T T2 ∧ T2.1 67 = upd (T.1 67) d (nI (clF (T.1 67) d - F)) := by
  obtain ⟨c1, c2⟩ := clF_eq hw hd
  unfold fX12_fadeNow
  rw [a0, ck_in (by omega) (by omega), ck_in (by omega) (by omega), lt_s9, ga_nI (by omega), show ga T 65 1 = nI F from hF1, c1, k_fade _ c2 F hF]
  refine ⟨_, rfl, Fr.pa (by simp), ?_⟩
  rw [row_pa, if_pos rfl, nI_clamp (by omega)]
theorem odds_l {E N F H d : Nat} {G : Int32 → Int32 → Int32 → Int32 → Int32 → Bool} {pl m : Nat → Int32} (hN : 40 ≤ N) (hw : wfL E m) (hd : d < E) (ch : Int32) : ∀ (j i n : Nat) (x : Int64) (S T : SS) (u : Nat), Kx E N F H G pl S → Mx E N F H G pl T → Lv E 18 S m → Lv E 30 S (upd m d (nI u)) → u ≤ 20 → T.1 67 d = nI u → (∀ o, i ≤ o → o < E → o ≠ d → T.1 67 o = m o) → (∀ o, o < E → ∃ v, v ≤ 20 ∧ T.1 67 o = nI v) → (∀ q, 7 ≤ q → T.1 67 q = m q) → i + j = E → j < n → ∃ S2 T2 T3 r, fX0_knottedParts_l28 N n (nI d) ch x (nI (tw m d).length) (nI i) S = some (S2, r) ∧ fX12_odds_l32 N n (nI d) ch x (nI i) T = bd (fX12_takeBack N T2 0) (fun T3 => some (T3, r)) ∧ Fr [16, 17, 31] S S2 ∧ Fr [61, 62, 67] T T2 ∧ (∀ q, 7 ≤ q → T2.1 67 q = m q) ∧ T3 = T2 := by
  intro j
  induction j with
  | zero =>
    intro i n x S T u hk hx hv hv30 hu t1 t2 t3 t4 hi hn
    have hE := hk.1
    obtain ⟨n, rfl⟩ : ∃ q, n = q + 1 := ⟨n - 1, by omega⟩
    unfold fX0_knottedParts_l28 fX12_odds_l32
    rw [hv.1, hx.2.1, if_pos (nI_le (by omega) (by omega)), if_pos (nI_le (by omega) (by omega))]
    exact ⟨S, T, T, _, rfl, rfl, Fr.rf, Fr.rf, t4, rfl⟩
  | succ j ih =>
    intro i n x S T u hk hx hv hv30 hu t1 t2 t3 t4 hi hn
    have hE := hk.1
    obtain ⟨n, rfl⟩ : ∃ q, n = q + 1 := ⟨n - 1, by omega⟩
    have hi' : i < E := by omega
    have hwT : wfL E (T.1 67) := wf_col hw t3 t4
    have hwu : wfL E (upd m d (nI u)) := wf_col hw (fun q hq => by
      by_cases e : q = d
      · subst e
        rw [pk_us]
        exact ⟨u, hu, rfl⟩
      · rw [pk_un e]
        exact (hw.1 q hq).1) (fun q hq => pk_un (by omega))
    unfold fX0_knottedParts_l28 fX12_odds_l32
    rw [hv.1, hx.2.1, if_neg (nI_ge (by omega) (by omega)), if_neg (nI_ge (by omega) (by omega)), bd_s (c_open (by omega) hE hv hw hd hi'), bd_s (m_open (by omega) hE hwT hd hi'), op_c t4, lt_s9, lt_s9, nI_1]
    cases ho : opF m d i
    · rw [ifi0, ifi0]
      exact ih (i + 1) n x S T u hk hx hv hv30 hu t1 (fun o h1 => t2 o (by omega)) t3 t4 (by omega) (by omega)
    · rw [ifi1, ifi1]
      have hdi : d ≠ i := by
        intro e
        subst e
        unfold opF at ho
        simp at ho
      obtain ⟨S1, z1, z2⟩ := c_goes hk hv30 hd hi' (nI (tw m d).length)
      obtain ⟨T1, y1, y2⟩ := m_fits (by omega) hx hwT hd hi'
      have hgeq : gwF G (T.1 67) pl d i (nI (tw (T.1 67) d).length) = gwF G (upd m d (nI u)) pl d i (nI (tw m d).length) := by
        rw [(tw_c t4 d).1]
        unfold gwF
        rw [t1, t2 i (by omega) hi' (Ne.symm hdi), t4 (7 + d) (by omega), t4 (7 + i) (by omega), t4 32 (by omega), pk_us, pk_un (j := i) (Ne.symm hdi), pk_un (j := 7 + d) (by omega), pk_un (j := 7 + i) (by omega), pk_un (j := 32) (by omega)]
      rw [hgeq] at y1
      rw [b2_s z1, b2_s y1]
      have hk1 := hk.f z2 kx1617
      have hx1 := hx.f y2 mx6162
      have hv1 := hv.f z2 (fr1617 (by omega))
      have hv301 := hv30.f z2 (fr1617 (by omega))
      have e67 : T1.1 67 = T.1 67 := y2.row (by decide)
      obtain ⟨S3, w1, w2, w3⟩ := c_fade (N := N) hE hv301 hwu hd hk.2.2.2.1
      obtain ⟨T3, v1, v2, v3⟩ := m_fade (N := N) hE hx1.2.2.1 (by rw [e67]; exact hwT) hd hk.2.2.2.1
      rw [e67] at v3
      have hx3 := hx1.f v2 (by decide)
      have hw3 : wfL E (T3.1 67) := by
        rw [v3]
        exact wf_fade hE hwT hd
      obtain ⟨T4, x1, x2, x3⟩ := m_fade (N := N) hE hx3.2.2.1 hw3 hi' hk.2.2.2.1
      have hk3 := hk1.f w2 (by decide)
      have hx4 := hx3.f x2 (by decide)
      have hcu : clF (upd m d (nI u)) d = u := by
        unfold clF
        rw [pk_us, nI_clamp (by omega)]
      have hcT : clF (T.1 67) d = u := by
        unfold clF
        rw [t1, nI_clamp (by omega)]
      rw [hcu] at w3
      rw [hcT] at v3
      have hv303 : Lv E 30 S3 (upd m d (nI (u - F))) := by
        have e : upd (upd m d (nI u)) d (nI (u - F)) = upd m d (nI (u - F)) := by
          funext q
          by_cases e : q = d
          · subst e
            rw [pk_us, pk_us]
          · rw [pk_un e, pk_un e, pk_un e]
        rw [← e]
        exact w3
      have hv3 : Lv E 18 S3 m := hv1.f w2 (by simp)
      have gS : gi S1 3 2 = nI F := hk1.2.2.1
      have key : ∀ y : Int64, ∃ S2 T2 T3 r, fX0_knottedParts_j81 N (fX0_knottedParts_l28 N n) (nI d) ch y (nI (tw m d).length) (nI i) S1 = some (S2, r) ∧ fX12_odds_j73 N (fX12_odds_l32 N n) (nI d) ch (nI i) y T1 = bd (fX12_takeBack N T2 0) (fun T3 => some (T3, r)) ∧ Fr [16, 17, 31] S S2 ∧ Fr [61, 62, 67] T T2 ∧ (∀ q, 7 ≤ q → T2.1 67 q = m q) ∧ T3 = T2 := fun y => by
        unfold fX0_knottedParts_j81 fX12_odds_j73
        rw [gS, bd_s w1, bd_s v1, bd_s x1, lt_s9, lt_s9, nI_1]
        have r67 : ∀ q, T4.1 67 q = upd (upd (T.1 67) d (nI (u - F))) i (nI (clF (T3.1 67) i - F)) q := fun q => by
          rw [x3, v3]
        obtain ⟨S5, T5, T6, r, b1, b2, b3, b4, b5, b6⟩ := ih (i + 1) n y S3 T4 (u - F) hk3 hx4 hv3 hv303 (by omega) (by rw [r67, pk_un hdi, pk_us]) (fun o h1 h2 h3 => by rw [r67, pk_un (by omega), pk_un h3]; exact t2 o (by omega) h2 h3) (fun o h2 => by
          rw [r67]
          by_cases e1 : o = i
          · subst e1
            rw [pk_us]
            have := (clF_eq hw3 h2).2
            exact ⟨_, by omega, rfl⟩
          · rw [pk_un e1]
            by_cases e2 : o = d
            · subst e2
              rw [pk_us]
              exact ⟨_, by omega, rfl⟩
            · rw [pk_un e2]
              exact t3 o h2) (fun q hq => by rw [r67, pk_un (by omega), pk_un (by omega)]; exact t4 q hq) (by omega) (by omega)
        exact ⟨S5, T5, T6, r, b1, b2, ((z2.mono (by decide)).tr (w2.mono (by decide))).tr b3, (((y2.mono (by decide)).tr (v2.mono (by decide))).tr (x2.mono (by decide))).tr b4, b5, b6⟩
      cases gwF G (upd m d (nI u)) pl d i (nI (tw m d).length)
      · rw [ifi0, ifi0]
        exact key x
      · rw [ifi1, ifi1, lt_s9]
        exact key _
theorem s_odds {N : Nat} (hN : 40 ≤ N) {S T : SS} (h : Rel N S T) (a1 a2 : Int32) : ∃ (r : Int32) (S' T' : SS), (fX11_odds N S a1 a2 = some (S', r)) ∧ (fX12_odds N T a1 a2 = some (T', r)) ∧ Rel N S' T' := by
  obtain ⟨E, ht, hm, hl, ha, hi, hs, hz⟩ := id h
  have hc := cx_of hm ha
  obtain ⟨hE, _, hv, hw⟩ := id hc
  unfold fX11_odds fX12_odds
  rcases end3 (N := N) hm a1 with ⟨e1, e2⟩ | ⟨d, hd, rfl, e1, e2⟩
  · rw [bd_s e1, bd_s e2]
    exact ⟨_, S, T, rfl, rfl, h⟩
  rw [bd_s e1, bd_s e2, if_neg n10, if_neg n10]
  rcases ix3 a2 (n := 101) (by omega) with q | q | ⟨c, hc1, rfl⟩
  · rw [if_pos q, bd_s (in_lo q)]
    exact ⟨_, S, T, rfl, rfl, h⟩
  · rw [if_neg q.1, if_neg (show ¬ a2 ≤ 100 from fun z => by
        have z1 := Int32.le_iff_toInt_le.mp z
        have z2 := Int32.le_iff_toInt_le.mp q.2
        have z3 : (nI 101).toInt = 101 := by decide
        have z4 : (100 : Int32).toInt = 100 := by decide
        omega), bd_s (in_hi (b := 100) (n := 101) (by omega) (by omega) (by decide) q.2)]
    exact ⟨_, S, T, rfl, rfl, h⟩
  rw [if_neg (nI_pos (by omega)), if_pos (show nI c ≤ 100 from nI_le (b := 100) (by omega) (by omega)), bd_s (in_ok (b := 100) (n := 101) hc1 (by omega) (by decide)), if_neg n10]
  obtain ⟨F, H, G, hK, hM⟩ := km_of (show 0 < E by omega) hm hl
  obtain ⟨S1, z1, z2, z3⟩ := c_copy (N := N) hE hv
  obtain ⟨T1, y1, y2, y3⟩ := put_a (N := N) hN (e := 0) (by omega) T
  obtain ⟨c1, c2⟩ := clF_eq hw hd
  have e67 : T1.1 67 = T.1 67 := y2.row (by decide)
  have hu : upd (T.1 67) d (nI (clF (T.1 67) d)) = T.1 67 := by
    rw [← c1]
    exact upd_self (fun j _ => rfl)
  obtain ⟨S2, T2, T3, r, b1, b2, b3, b4, b5, b6⟩ := odds_l (m := T.1 67) hN hw hd (nI c) E 0 N 1000000000 S1 T1 (clF (T.1 67) d) (hK.f z2 (by decide)) (hM.f y2 (by decide)) (hv.f z2 (by decide)) (by rw [hu]; exact z3) c2 (by rw [e67]; exact c1) (fun o _ _ _ => by rw [e67]) (fun o h2 => by rw [e67]; exact (hw.1 o h2).1) (fun q _ => by rw [e67]) (by omega) (by omega)
  obtain ⟨T4, w1, w2, w3⟩ := take_b (N := N) hN (e := 0) (by omega) T2
  have hS : fX0_knottedParts N S (nI d) (nI c) = some (S2, r) := by
    unfold fX0_knottedParts
    rw [bd_s (c_size (by omega) hE hv hw hd), bd_s z1]
    exact b1
  have w1' : fX12_takeBack N T2 0 = some T4 := w1
  have b2' : fX12_odds_l32 N N (nI d) (nI c) 1000000000 0 T1 = some (T4, r) := by
    refine Eq.trans b2 ?_
    rw [bd_s w1']
  have y1' : fX12_putAside N T 0 = some T1 := y1
  rw [b2_s hS, bd_s y1', b2']
  refine ⟨r, S2, T4, rfl, rfl, rel_fr h ((z2.mono (by decide)).tr (b3.mono (by decide))) ?_⟩
  have hf : Fr [61, 62, 67, 71] T T4 := ((y2.mono (by decide)).tr (b4.mono (by decide))).tr (w2.mono (by decide))
  refine ⟨fun k hk => ?_, hf.2⟩
  by_cases h67 : k = 67
  · subst h67
    funext q
    rw [w3 q]
    by_cases hq : q < 33
    · rw [if_pos hq, b4.row (k := 71) (by decide), y3, if_pos (by omega), show 33 * 0 + q - 33 * 0 = q by omega]
    · rw [if_neg hq, b5 q (by omega)]
  · exact hf.1 k (by simp at hk ⊢; omega)
