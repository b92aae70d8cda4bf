/-! plan: the reference -/
def eM (T : SS) : Option (Nat × Nat) → Prop
  | none => gi T 52 31 = -1
  | some c => gi T 52 31 = nI c.2 ∧ gi T 52 32 = nI c.1 ∧ ∃ dp, 1 ≤ dp ∧ dp ≤ 2 ∧ gi T 52 33 = nI dp
def bdO (s : Option (Nat × Nat)) : Prop := ∀ c, s = some c → c.1 < 100 ∧ c.2 < 10000
theorem bdO_bet {s : Option (Nat × Nat)} {c : Nat × Nat} (h : bdO s) (hc : c.1 < 100 ∧ c.2 < 10000) : bdO (bet s c) := by
  intro d hd
  cases s with
  | none =>
    cases hd
    exact hc
  | some s =>
    simp only [bet] at hd
    split at hd
    · cases hd
      exact hc
    · exact h d hd
theorem eM_c {T T' : SS} (h : T'.1 52 = T.1 52) : ∀ {s : Option (Nat × Nat)}, eM T s → eM T' s
  | none, q => by
    unfold eM gi at *
    rw [h]
    exact q
  | some c, q => by
    unfold eM gi at *
    rw [h]
    exact q
theorem m_leafj {N dp M R : Nat} {T : SS} {s : Option (Nat × Nat)} {rec : SS → Int32 → Int32 → Int32 → Int32 → Option SS} (he : eM T s) (hb : bdO s) (h1 : 1 ≤ dp) (h2 : dp ≤ 2) (hM : M < 100) (hR : R < 10000) : ∃ T2, fX12_tryPlan_j122 N rec (nI dp) (nI R) (nI M) 1 T = some T2 ∧ FT [] T T2 ∧ eM T2 (bet s (M, R)) := by
  have fin : FT [] T (pj (pj (pj T 52 31 (nI R)) 52 32 (nI M)) 52 33 (nI dp)) ∧ eM (pj (pj (pj T 52 31 (nI R)) 52 32 (nI M)) 52 33 (nI dp)) (some (M, R)) := by
    refine ⟨((FT.pj (Or.inl rfl)).tr (FT.pj (Or.inr (Or.inl rfl)))).tr (FT.pj (Or.inr (Or.inr (Or.inl rfl)))), ?_, ?_, dp, h1, h2, ?_⟩
    · rw [gi_pj, gi_pj, gi_pj]
      rfl
    · rw [gi_pj, gi_pj]
      rfl
    · rw [gi_pj]
      rfl
  unfold fX12_tryPlan_j122 fX12_isBetter
  rw [if_neg n10]
  cases s with
  | none =>
    rw [if_pos (show gi T 52 31 = -1 from he), bd_s rfl, if_neg n10]
    exact ⟨_, rfl, fin.1, fin.2⟩
  | some c =>
    have q := hb c rfl
    rw [he.1, he.2.1, if_neg (nI_m1 (by omega))]
    simp only [bet]
    by_cases c1 : c.1 < M
    · rw [if_pos (nI_lt c1 (by omega)), if_pos (Or.inl c1), bd_s rfl, if_neg n10]
      exact ⟨_, rfl, fin.1, fin.2⟩
    · rw [if_neg (nI_nlt (by omega) (by omega))]
      by_cases c2 : M = c.1
      · rw [if_pos (by rw [c2])]
        by_cases c3 : c.2 ≤ R
        · rw [if_pos (nI_le c3 (by omega)), if_neg (by show ¬ (c.1 < M ∨ M = c.1 ∧ R < c.2); omega), bd_s rfl, if_pos rfl]
          exact ⟨_, rfl, FT.rf, he⟩
        · rw [if_neg (nI_ge (by omega) (by omega)), if_pos (by show c.1 < M ∨ M = c.1 ∧ R < c.2; omega), bd_s rfl, if_neg n10]
          exact ⟨_, rfl, fin.1, fin.2⟩
      · rw [if_neg (fun z => c2 ((nI_eq (by omega) (by omega)).mp z)), if_neg (by show ¬ (c.1 < M ∨ M = c.1 ∧ R < c.2); omega), bd_s rfl, if_pos rfl]
        exact ⟨_, rfl, FT.rf, he⟩
/-- what a part of tryPlan leaves: the row as it was, what was put aside below -/
def plR (dp : Nat) (T T2 : SS) : Prop := FT [61, 62, 67, 71] T T2 ∧ T2.1 67 = T.1 67 ∧ ∀ q, q < 33 * dp → T2.1 71 q = T.1 71 q
theorem m_leaf {E N F H dp M R d : Nat} {G : Int32 → Int32 → Int32 → Int32 → Int32 → Bool} {pl : Nat → Int32} {T : SS} {s : Option (Nat × Nat)} (hN : 40 ≤ N) (h0 : 0 < E) (hK : Mx E N F H G pl T) (he : eM T s) (hb : bdO s) (h1 : 1 ≤ dp) (h2 : dp ≤ 2) (hM : M < 100) (hR : R < 10000) : ∃ T2, fX12_tryPlan N (d + 1) T (nI dp) 0 (nI R) (nI M) = some T2 ∧ plR dp T T2 ∧ eM T2 (bet s (M, R)) := by
  have hE := hK.1
  obtain ⟨T1, z1, z2, z3⟩ := put_a (N := N) hN (show dp < 3 by omega) T
  obtain ⟨n, rfl⟩ : ∃ q, N = q + 1 := ⟨N - 1, by omega⟩
  have hK1 := hK.f z2 (by decide)
  obtain ⟨T2, y1, y2, y3⟩ := m_leafj (N := n + 1) (rec := fX12_tryPlan (n + 1) d) (eM_c (z2.row (by decide)) he) hb h1 h2 hM hR
  show ∃ T2, fX12_tryPlan_b (n + 1) (fX12_tryPlan (n + 1) d) T (nI dp) 0 (nI R) (nI M) = some T2 ∧ _
  unfold fX12_tryPlan_b fX12_tryPlan_l11
  rw [bd_s z1, hK1.2.1, pk_mul, if_neg (show ¬ nI (E * E) ≤ 0 from nI_nle (Nat.mul_pos h0 h0) (by
    have : E * E ≤ 7 * 7 := Nat.mul_le_mul hE hE
    omega)), if_pos (by decide)]
  refine ⟨T2, y1, ⟨((FT.of z2).mono (by decide)).tr (y2.mono (by decide)), ?_, fun q hq => ?_⟩, y3⟩
  · rw [y2.row (k := 67) (by decide) (by decide), z2.row (k := 67) (by decide)]
  · rw [y2.row (k := 71) (by decide) (by decide), z3 q, if_neg (by omega)]
theorem m_pl {E N F H dp L M R : Nat} {G : Int32 → Int32 → Int32 → Int32 → Int32 → Bool} {pl m : Nat → Int32} {X : Nat → Nat → Nat × Nat} {rec : SS → Int32 → Int32 → Int32 → Int32 → Option SS} {T0 : SS} (hN : 40 ≤ N) (h0 : 0 < E) (hw : wfL E m) (hdp : dp ≤ 1) (hL : 1 ≤ L) (hL2 : L ≤ 2) (hX : ∀ a b, a < E → b < E → (X a b).1 < 100 ∧ (X a b).2 < 10000)
    (hrec : ∀ (a b : Nat) (T : SS) (s : Option (Nat × Nat)), a < E → b < E → opF m a b = true → Mx E N F H G pl T → T.1 67 = tryF (gwF G m pl a b (nI (tw m a).length)) F m a b → eM T s → bdO s → ∃ T2, rec T (nI (dp + 1)) (nI (L - 1)) (nI (100 * R + 10 * a + b)) (nI (M + (gwF G m pl a b (nI (tw m a).length)).toNat)) = some T2 ∧ plR (dp + 1) T T2 ∧ eM T2 (bet s (X a b))) :
    ∀ (j k n : Nat) (T : SS) (s : Option (Nat × Nat)) (nn : Bool), Mx E N F H G pl T → T.1 67 = m → (∀ q, q < 33 → T.1 71 (33 * dp + q) = m q) → eM T s → bdO s → FT [61, 62, 67, 71] T0 T → (∀ q, q < 33 * (dp + 1) → T.1 71 q = T0.1 71 q) → k + j = E * E → j < n → ∃ T2, fX12_tryPlan_l11 N rec n (nI dp) (nI L) (nI R) (nI M) (i01 nn) (nI k) T = fX12_tryPlan_j122 N rec (nI dp) (nI R) (nI M) (i01 (nn && (cK E (opF m) X j k).isEmpty)) T2 ∧ FT [61, 62, 67, 71] T0 T2 ∧ T2.1 67 = m ∧ Mx E N F H G pl T2 ∧ (∀ q, q < 33 * (dp + 1) → T2.1 71 q = T0.1 71 q) ∧ eM T2 ((cK E (opF m) X j k).foldl bet s) ∧ bdO ((cK E (opF m) X j k).foldl bet s) := by
  intro j
  induction j with
  | zero =>
    intro k n T s nn hK h67 h71 he hb fT a71 hi hn
    obtain ⟨n, rfl⟩ : ∃ q, n = q + 1 := ⟨n - 1, by omega⟩
    have hE := hK.1
    have hEE : E * E ≤ 7 * 7 := Nat.mul_le_mul hE hE
    unfold fX12_tryPlan_l11
    rw [hK.2.1, pk_mul, if_pos (nI_le (by omega) (by omega))]
    exact ⟨T, by simp [cK], fT, h67, hK, a71, he, hb⟩
  | succ j ih =>
    intro k n T s nn hK h67 h71 he hb fT a71 hi hn
    obtain ⟨n, rfl⟩ : ∃ q, n = q + 1 := ⟨n - 1, by omega⟩
    have hE := hK.1
    have hEE : E * E ≤ 7 * 7 := Nat.mul_le_mul hE hE
    obtain ⟨ha, hbb⟩ := kin hE (i := k) (by omega)
    have hw67 : wfL E (T.1 67) := by rw [h67]; exact hw
    have e0 : ∀ T' : SS, gi T' 52 22 = nI E → decide (¬ gi T' 52 22 = 0) = true := fun T' h => by
      rw [h]
      exact decide_eq_true (nI_ne0 h0 (by omega))
    unfold fX12_tryPlan_l11
    rw [hK.2.1, pk_mul, if_neg (nI_ge (by omega) (by omega)), if_neg (show ¬ nI L ≤ 0 from nI_nle hL (by omega)), ck_t (decide_eq_true (nI_ne0 h0 (by omega))), ck_t (decide_eq_true (nI_ne0 h0 (by omega))), ck_t (decide_eq_true (nI_ne0 h0 (by omega))), ck_t (decide_eq_true (nI_ne0 h0 (by omega))), pk_div (by omega) h0 (by omega)]
    have er : ir (nI k) (nI E) = nI (k % E) := pk_rem (by omega) h0 (by omega)
    rw [er, bd_s (m_open (by omega) hE hw67 ha hbb), lt_s9, nI_1, h67]
    unfold cK
    cases ho : opF m (k / E) (k % E)
    · rw [ifi0]
      exact ih (k + 1) n T s nn hK h67 h71 he hb fT a71 (by omega) (by omega)
    · rw [ifi1, if_pos rfl]
      obtain ⟨T1, z1, z2, z3⟩ := m_try (by omega) hK hw67 ha hbb (by rw [h67]; exact ho)
      rw [h67] at z1 z3
      have hK1 := hK.f z2 (by decide)
      have e22 := hK1.2.1
      rw [b2_s z1, ck_t (e0 _ e22), ck_t (e0 _ e22), e22, pk_div (by omega) h0 (by omega), er]
      obtain ⟨T2, y1, y2, y3⟩ := hrec (k / E) (k % E) T1 s ha hbb ho hK1 z3 (eM_c (z2.row (by decide)) he) hb
      have ea : (100 : Int32) * nI R + 10 * nI (k / E) + nI (k % E) = nI (100 * R + 10 * (k / E) + k % E) := by
        show nI 100 * nI R + nI 10 * nI (k / E) + nI (k % E) = _
        rw [pk_mul, pk_mul, nI_add, nI_add]
      rw [ea, nI_1, nI_s1 hL, ← nI_i01, nI_add, bd_s y1]
      obtain ⟨T3, x1, x2, x3⟩ := take_b (N := N) hN (show dp < 3 by omega) T2
      rw [bd_s x1, lt_s9]
      have f3 : FT [61, 62, 67, 71] T0 T3 := ((fT.tr ((FT.of z2).mono (by decide))).tr y2.1).tr ((FT.of x2).mono (by decide))
      have hK3 : Mx E N F H G pl T3 := (hK1.ft y2.1 (by decide)).f x2 (by decide)
      have r67 : T3.1 67 = m := by
        funext q
        rw [x3 q]
        by_cases hq : q < 33
        · rw [if_pos hq, y2.2.2 _ (by omega), z2.row (k := 71) (by decide), h71 q hq]
        · rw [if_neg hq, y2.2.1, z3, try_hi (by omega) (by omega) q (by omega)]
      have r71 : ∀ q, q < 33 * (dp + 1) → T3.1 71 q = T.1 71 q := fun q hq => by
        rw [x2.row (k := 71) (by decide), y2.2.2 q hq, z2.row (k := 71) (by decide)]
      obtain ⟨T4, w1, w2, w3, w4, w5, w6, w7⟩ := ih (k + 1) n T3 (bet s (X (k / E) (k % E))) false hK3 r67 (fun q hq => by rw [r71 _ (by omega)]; exact h71 q hq) (eM_c (x2.row (by decide)) y3) (bdO_bet hb (hX _ _ ha hbb)) f3 (fun q hq => by rw [r71 q hq]; exact a71 q hq) (by omega) (by omega)
      refine ⟨T4, ?_, w2, w3, w4, w5, w6, w7⟩
      have e5 : (nn && (X (k / E) (k % E) :: cK E (opF m) X j (k + 1)).isEmpty) = (false && (cK E (opF m) X j (k + 1)).isEmpty) := by
        cases nn <;> rfl
      rw [e5]
      exact w1
/-- one try more, behind the first -/
theorem m_p1 {E N F H M R d : Nat} {G : Int32 → Int32 → Int32 → Int32 → Int32 → Bool} {pl : Nat → Int32} {T : SS} {s : Option (Nat × Nat)} (hN : 60 ≤ N) (h0 : 0 < E) (hK : Mx E N F H G pl T) (hw : wfL E (T.1 67)) (he : eM T s) (hb : bdO s) (hM : M ≤ 1) (hR : R < 67) : ∃ T2, fX12_tryPlan N (d + 2) T 1 1 (nI R) (nI M) = some T2 ∧ plR 1 T T2 ∧ eM T2 (bet s (match (lsF E G (T.1 67) pl).foldl bet none with
    | none => (M, R)
    | some c => mvF M R c)) := by
  have hE := hK.1
  have hEE : E * E ≤ 7 * 7 := Nat.mul_le_mul hE hE
  obtain ⟨T1, z1, z2, z3⟩ := put_a (N := N) (by omega) (show 1 < 3 by omega) T
  have hK1 := hK.f z2 (by decide)
  have e67 : T1.1 67 = T.1 67 := z2.row (by decide)
  show ∃ T2, fX12_tryPlan_b N (fX12_tryPlan N (d + 1)) T (nI 1) (nI 1) (nI R) (nI M) = some T2 ∧ _
  unfold fX12_tryPlan_b
  rw [bd_s z1]
  obtain ⟨T2, w1, w2, w3, w4, w5, w6, w7⟩ := m_pl (E := E) (N := N) (F := F) (H := H) (G := G) (pl := pl) (m := T.1 67) (dp := 1) (L := 1) (M := M) (R := R) (X := fun a b => mvF M R (X1F G (T.1 67) pl a b)) (rec := fX12_tryPlan N (d + 1)) (T0 := T1) (by omega) h0 hw (by omega) (by omega) (by omega) (fun a b ha hb => by
      have := tn1 (gwF G (T.1 67) pl a b (nI (tw (T.1 67) a).length))
      dsimp only [mvF, X1F]
      omega) (fun a b T' s' ha hb ho hK' h67 he' hb' => by
      have q1 := tn1 (gwF G (T.1 67) pl a b (nI (tw (T.1 67) a).length))
      obtain ⟨T3, v1, v2, v3⟩ := m_leaf (d := d) (dp := 2) (M := M + (gwF G (T.1 67) pl a b (nI (tw (T.1 67) a).length)).toNat) (R := 100 * R + 10 * a + b) (by omega) h0 hK' he' hb' (by omega) (by omega) (by omega) (by omega)
      refine ⟨T3, v1, v2, ?_⟩
      have : mvF M R (X1F G (T.1 67) pl a b) = (M + (gwF G (T.1 67) pl a b (nI (tw (T.1 67) a).length)).toNat, 100 * R + 10 * a + b) := by
        unfold mvF X1F
        dsimp only
        rw [Nat.add_assoc]
      rw [this]
      exact v3) (E * E) 0 N T1 s true hK1 e67 (fun q hq => by rw [z3, if_pos (by omega), show 33 * 1 + q - 33 * 1 = q by omega]) (eM_c (z2.row (by decide)) he) hb FT.rf (fun _ _ => rfl) (by omega) (by omega)
  rw [cK_map (mvF M R)] at w1 w6 w7
  have f2 : FT [61, 62, 67, 71] T T2 := ((FT.of z2).mono (by decide)).tr w2
  have a2 : ∀ q, q < 33 * 1 → T2.1 71 q = T.1 71 q := fun q hq => by
    rw [w5 q (by omega), z3 q, if_neg (by omega)]
  have w1' : fX12_tryPlan_l11 N (fX12_tryPlan N (d + 1)) N (nI 1) (nI 1) (nI R) (nI M) 1 0 T1 = _ := w1
  rw [w1']
  have hl : cK E (opF (T.1 67)) (X1F G (T.1 67) pl) (E * E) 0 = lsF E G (T.1 67) pl := rfl
  rw [hl] at w6 w7 ⊢
  cases hls : lsF E G (T.1 67) pl with
  | nil =>
    rw [hls] at w6 w7
    obtain ⟨T3, v1, v2, v3⟩ := m_leafj (N := N) (dp := 1) (M := M) (R := R) (rec := fX12_tryPlan N (d + 1)) w6 w7 (by omega) (by omega) (by omega) (by omega)
    exact ⟨T3, v1, ⟨f2.tr (v2.mono (by decide)), by rw [v2.row (k := 67) (by decide) (by decide), w3], fun q hq => by rw [v2.row (k := 71) (by decide) (by decide)]; exact a2 q hq⟩, v3⟩
  | cons c l =>
    rw [hls] at w6
    refine ⟨T2, rfl, ⟨f2, w3, a2⟩, ?_⟩
    rw [bet_fold, show (none : Option (Nat × Nat)) = Option.map (mvF M R) none from rfl, bet_map] at w6
    obtain ⟨x, hx⟩ := bet_sm l c
    have hx2 : (c :: l).foldl bet none = some x := hx
    rw [hx2] at w6 ⊢
    exact w6
/-- the whole of tryPlan's answer -/
theorem m_top {E N F H L : Nat} {G : Int32 → Int32 → Int32 → Int32 → Int32 → Bool} {pl : Nat → Int32} {X : Nat → Nat → Nat × Nat} {T : SS} (hN : 60 ≤ N) (h0 : 0 < E) (hK : Mx E N F H G pl T) (hw : wfL E (T.1 67)) (hL : 1 ≤ L) (hL2 : L ≤ 2) (hX : ∀ a b, a < E → b < E → (X a b).1 < 100 ∧ (X a b).2 < 10000) (he : gi T 52 31 = -1)
    (hrec : ∀ (a b : Nat) (T' : SS) (s : Option (Nat × Nat)), a < E → b < E → opF (T.1 67) a b = true → Mx E N F H G pl T' → T'.1 67 = tryF (gwF G (T.1 67) pl a b (nI (tw (T.1 67) a).length)) F (T.1 67) a b → eM T' s → bdO s → ∃ T2, fX12_tryPlan N 4 T' (nI 1) (nI (L - 1)) (nI (100 * 0 + 10 * a + b)) (nI (0 + (gwF G (T.1 67) pl a b (nI (tw (T.1 67) a).length)).toNat)) = some T2 ∧ plR 1 T' T2 ∧ eM T2 (bet s (X a b))) :
    ∃ T2, fX12_tryPlan N 5 T 0 (nI L) 0 0 = some T2 ∧ FT [61, 62, 67, 71] T T2 ∧ T2.1 67 = T.1 67 ∧ gi T2 52 32 = x1O ((cK E (opF (T.1 67)) X (E * E) 0).foldl bet none) ∧ (if gi T2 52 33 = 0 then -1 else gi T2 52 31) = x2O ((cK E (opF (T.1 67)) X (E * E) 0).foldl bet none) := by
  have hE := hK.1
  have hEE : E * E ≤ 7 * 7 := Nat.mul_le_mul hE hE
  obtain ⟨T1, z1, z2, z3⟩ := put_a (N := N) (by omega) (show 0 < 3 by omega) T
  have hK1 := hK.f z2 (by decide)
  have e67 : T1.1 67 = T.1 67 := z2.row (by decide)
  show ∃ T2, fX12_tryPlan_b N (fX12_tryPlan N 4) T (nI 0) (nI L) (nI 0) (nI 0) = some T2 ∧ _
  unfold fX12_tryPlan_b
  rw [bd_s z1]
  obtain ⟨T2, w1, w2, w3, w4, w5, w6, w7⟩ := m_pl (E := E) (N := N) (F := F) (H := H) (G := G) (pl := pl) (m := T.1 67) (dp := 0) (L := L) (M := 0) (R := 0) (X := X) (rec := fX12_tryPlan N 4) (T0 := T1) (by omega) h0 hw (by omega) hL hL2 hX hrec (E * E) 0 N T1 none true hK1 e67 (fun q hq => by rw [z3, if_pos (by omega), show 33 * 0 + q - 33 * 0 = q by omega]) (show eM T1 none from (by unfold eM gi; rw [z2.row (k := 52) (by decide)]; exact he)) (fun c hc => nomatch hc) FT.rf (fun _ _ => rfl) (by omega) (by omega)
  have f2 : FT [61, 62, 67, 71] T T2 := ((FT.of z2).mono (by decide)).tr w2
  have w1' : fX12_tryPlan_l11 N (fX12_tryPlan N 4) N (nI 0) (nI L) (nI 0) (nI 0) 1 0 T1 = _ := w1
  rw [w1']
  cases hls : cK E (opF (T.1 67)) X (E * E) 0 with
  | nil =>
    rw [hls] at w6
    have e31 : gi T2 52 31 = -1 := w6
    show ∃ T3, fX12_tryPlan_j122 N (fX12_tryPlan N 4) (nI 0) (nI 0) (nI 0) 1 T2 = some T3 ∧ _
    unfold fX12_tryPlan_j122 fX12_isBetter
    rw [if_neg n10, if_pos e31, bd_s rfl, if_neg n10]
    refine ⟨_, rfl, f2.tr (((FT.pj (Or.inl rfl)).tr (FT.pj (Or.inr (Or.inl rfl)))).tr (FT.pj (Or.inr (Or.inr (Or.inl rfl))))), w3, ?_, ?_⟩
    · rw [gi_pj, gi_pj]
      rfl
    · rw [gi_pj]
      rfl
  | cons c l =>
    rw [hls] at w6
    refine ⟨T2, rfl, f2, w3, ?_⟩
    obtain ⟨x, hx⟩ := bet_sm l c
    have hx2 : (c :: l).foldl bet none = some x := hx
    rw [hx2] at w6 ⊢
    obtain ⟨q1, q2, dp, q3, q4, q5⟩ := w6
    rw [q5, if_neg (nI_ne0 (by omega) (by omega))]
    exact ⟨q2, q1⟩
theorem in12 {N : Nat} (x : Int32) : (fX12_in N x 1 2 = some 0 ∧ (x < 1 ∨ (¬ x < 1 ∧ 2 < x))) ∨ (fX12_in N x 1 2 = some 1 ∧ ¬ x < 1 ∧ ¬ 2 < x ∧ (x = nI 1 ∨ x = nI 2)) := by
  unfold fX12_in
  by_cases h1 : x < 1
  · rw [if_pos h1]
    exact Or.inl ⟨rfl, Or.inl h1⟩
  · rw [if_neg h1]
    by_cases h2 : 2 < x
    · rw [if_pos h2]
      exact Or.inl ⟨rfl, Or.inr ⟨h1, h2⟩⟩
    · rw [if_neg h2]
      refine Or.inr ⟨rfl, h1, h2, ?_⟩
      rw [Int32.lt_iff_toInt_lt] at h1 h2
      have e1 : (1 : Int32).toInt = 1 := by decide
      have e2 : (2 : Int32).toInt = 2 := by decide
      have e3 : (nI 1).toInt = 1 := by decide
      have e4 : (nI 2).toInt = 2 := by decide
      rcases (by omega : x.toInt = 1 ∨ x.toInt = 2) with q | q
      · exact Or.inl (Int32.toInt_inj.mp (by omega))
      · exact Or.inr (Int32.toInt_inj.mp (by omega))
theorem in01 {N : Nat} (x : Int32) : (fX12_in N x 0 1 = some 0 ∧ (x < 0 ∨ (¬ x < 0 ∧ ¬ x ≤ 1))) ∨ (fX12_in N x 0 1 = some 1 ∧ ¬ x < 0 ∧ x ≤ 1 ∧ ¬ 1 < x ∧ (x = nI 0 ∨ x = nI 1)) := by
  unfold fX12_in
  have e1 : (1 : Int32).toInt = 1 := by decide
  have e0 : (0 : Int32).toInt = 0 := by decide
  have e3 : (nI 1).toInt = 1 := by decide
  have e4 : (nI 0).toInt = 0 := by decide
  by_cases h1 : x < 0
  · rw [if_pos h1]
    exact Or.inl ⟨rfl, Or.inl h1⟩
  · rw [if_neg h1]
    by_cases h2 : 1 < x
    · rw [if_pos h2]
      refine Or.inl ⟨rfl, Or.inr ⟨h1, fun q => ?_⟩⟩
      rw [Int32.lt_iff_toInt_lt] at h2
      rw [Int32.le_iff_toInt_le] at q
      omega
    · rw [if_neg h2]
      have h3 := h1
      have h4 := h2
      rw [Int32.lt_iff_toInt_lt] at h3 h4
      refine Or.inr ⟨rfl, h1, ?_, h2, ?_⟩
      · rw [Int32.le_iff_toInt_le]
        omega
      · rcases (by omega : x.toInt = 0 ∨ x.toInt = 1) with q | q
        · exact Or.inl (Int32.toInt_inj.mp (by omega))
        · exact Or.inr (Int32.toInt_inj.mp (by omega))
theorem s_plan {N : Nat} (hN : 60 ≤ N) {S T : SS} (h : Rel N S T) (a1 a2 : Int32) : ∃ (r : Int32) (S' T' : SS), (fX11_plan N S a1 a2 = some (S', r)) ∧ (fX12_plan N T a1 a2 = some (T', r)) ∧ Rel N S' T' := by
  obtain ⟨E, ht, hm, hl, ha, hi, hs, hz⟩ := id h
  have hc := cx_of hm ha
  obtain ⟨hE, _, hv, hw⟩ := id hc
  unfold fX11_plan fX12_plan
  rcases there2 (N := N) hm with ⟨_, e1, e2⟩ | ⟨hp, e1, e2⟩
  · rw [bd_s e1, if_pos rfl, if_pos e2]
    exact ⟨_, S, T, rfl, rfl, h⟩
  rw [bd_s e1, if_neg n10, if_neg e2]
  rcases in12 (N := N) a1 with ⟨q1, q2⟩ | ⟨q1, q2, q3, q4⟩
  · rw [bd_s q1, if_pos rfl]
    rcases q2 with q2 | ⟨q2, q3⟩
    · rw [if_pos q2]
      exact ⟨_, S, T, rfl, rfl, h⟩
    · rw [if_neg q2, if_pos q3]
      exact ⟨_, S, T, rfl, rfl, h⟩
  rw [bd_s q1, if_neg n10, if_neg q2, if_neg q3]
  rcases in01 (N := N) a2 with ⟨p1, p2⟩ | ⟨p1, p2, p3, p4, p5⟩
  · rw [bd_s p1, if_pos rfl]
    rcases p2 with p2 | ⟨p2, p3⟩
    · rw [if_pos p2]
      exact ⟨_, S, T, rfl, rfl, h⟩
    · rw [if_neg p2, if_neg p3]
      exact ⟨_, S, T, rfl, rfl, h⟩
  rw [bd_s p1, if_neg n10, if_neg p2, if_pos p3, lt_s9]
  obtain ⟨F, H, G, hK, hM⟩ := km_of hp hm hl
  have hM8 : Mx E N F H G (S.1 5) (pj T 52 31 (-1)) := hM.ft (X := []) (FT.pj (Or.inl rfl)) (fun k hk => nomatch hk)
  have h31 : gi (pj T 52 31 (-1)) 52 31 = -1 := by
    rw [gi_pj]
    rfl
  have fin : ∀ (S2 T2 : SS) (s : Option (Nat × Nat)), Fr [16, 17, 29, 30, 31, 32, 33, 34] S S2 → eC S2 s → FT [61, 62, 67, 71] (pj T 52 31 (-1)) T2 → T2.1 67 = T.1 67 → gi T2 52 32 = x1O s → (if gi T2 52 33 = 0 then -1 else gi T2 52 31) = x2O s → ∃ (r : Int32) (S' T' : SS), fX11_plan_j57 N a2 S2 = some (S', r) ∧ (if a2 = 1 then some (T2, gi T2 52 32) else (if gi T2 52 33 = 0 then some (T2, -1) else some (T2, gi T2 52 31))) = some (T', r) ∧ Rel N S' T' := fun S2 T2 s f1 e1 f2 e67 g1 g2 => by
    have hR : Rel N S2 T2 := rel_ft h (f1.mono (by decide)) ⟨fun k j hk hj => by
      by_cases h67 : k = 67
      · rw [h67, e67]
      · exact ((FT.pj (T := T) (v := -1) (Or.inl rfl) : FT [61, 62, 67, 71] T _).tr f2).1 k j (fun q => by
          simp at q hk
          omega) hj, f2.2⟩
    have e1' : gi S2 29 10 = x1O s ∧ gi S2 29 11 = x2O s := by
      cases s with
      | none => exact e1
      | some c => exact e1
    unfold fX11_plan_j57
    rcases p5 with rfl | rfl
    · refine ⟨x2O s, S2, T2, ?_, ?_, hR⟩
      · rw [if_pos (show nI 0 = 0 from rfl), e1'.2]
      · rw [if_neg (by decide), ← g2]
        split <;> rfl
    · refine ⟨x1O s, S2, T2, ?_, ?_, hR⟩
      · rw [if_neg (by decide), e1'.1]
      · rw [if_pos (show nI 1 = 1 from rfl), g1]
  rcases q4 with rfl | rfl
  · rw [if_pos (show nI 1 = 1 from rfl)]
    obtain ⟨S2, z1, z2, z3⟩ := c_ft (N := N) (by omega) (Or.inl rfl) hK hv hw
    obtain ⟨T2, y1, y2, y3, y4, y5⟩ := m_top (X := X1F G (T.1 67) (S.1 5)) (T := pj T 52 31 (-1)) (L := 1) hN hp hM8 hw (by omega) (by omega) (fun a b ha hb => by
      have := tn1 (gwF G (T.1 67) (S.1 5) a b (nI (tw (T.1 67) a).length))
      dsimp only [X1F]
      omega) h31 (fun a b T' s ha hb ho hK' h67 he' hb' => by
      have q1 := tn1 (gwF G (T.1 67) (S.1 5) a b (nI (tw (T.1 67) a).length))
      obtain ⟨T3, v1, v2, v3⟩ := m_leaf (d := 3) (dp := 1) (M := 0 + (gwF G (T.1 67) (S.1 5) a b (nI (tw (T.1 67) a).length)).toNat) (R := 100 * 0 + 10 * a + b) (by omega) hp hK' he' hb' (by omega) (by omega) (by omega) (by omega)
      refine ⟨T3, v1, v2, ?_⟩
      have : X1F G (T.1 67) (S.1 5) a b = (0 + (gwF G (T.1 67) (S.1 5) a b (nI (tw (T.1 67) a).length)).toNat, 100 * 0 + 10 * a + b) := by
        unfold X1F
        rw [Nat.zero_add, Nat.mul_zero, Nat.zero_add]
      show eM T3 (bet s (X1F G (T.1 67) (S.1 5) a b))
      rw [this]
      exact v3)
    rw [bd_s z1]
    have y1' : fX12_tryPlan N 5 (pj T 52 31 (-1)) 0 (nI 1) 0 0 = some T2 := y1
    rw [bd_s y1']
    exact fin S2 T2 _ (z2.mono (by decide)) z3 y2 y3 y4 y5
  · rw [if_neg (by decide)]
    obtain ⟨S2, z1, z2, z3⟩ := c_two (N := N) (by omega) hK hv hw
    obtain ⟨T2, y1, y2, y3, y4, y5⟩ := m_top (X := X2F E F G (T.1 67) (S.1 5)) (T := pj T 52 31 (-1)) (L := 2) hN hp hM8 hw (by omega) (by omega) (fun a b ha hb => by
      have := X2_bd (F := F) (G := G) (m := T.1 67) (pl := S.1 5) (a := a) (b := b) hE
      omega) h31 (fun a b T' s ha hb ho hK' h67 he' hb' => by
      have q1 := tn1 (gwF G (T.1 67) (S.1 5) a b (nI (tw (T.1 67) a).length))
      have hw' : wfL E (T'.1 67) := by
        rw [h67]
        exact (wf_try hE hw ha hb ho).1
      obtain ⟨T3, v1, v2, v3⟩ := m_p1 (d := 2) (M := 0 + (gwF G (T.1 67) (S.1 5) a b (nI (tw (T.1 67) a).length)).toNat) (R := 100 * 0 + 10 * a + b) (by omega) hp hK' hw' he' hb' (by omega) (by omega)
      refine ⟨T3, v1, v2, ?_⟩
      rw [h67] at v3
      have e : (match (lsF E G (tryF (gwF G (T.1 67) (S.1 5) a b (nI (tw (T.1 67) a).length)) F (T.1 67) a b) (S.1 5)).foldl bet none with
        | none => (0 + (gwF G (T.1 67) (S.1 5) a b (nI (tw (T.1 67) a).length)).toNat, 100 * 0 + 10 * a + b)
        | some c => mvF (0 + (gwF G (T.1 67) (S.1 5) a b (nI (tw (T.1 67) a).length)).toNat) (100 * 0 + 10 * a + b) c) = X2F E F G (T.1 67) (S.1 5) a b := by
        unfold X2F
        rw [Nat.zero_add, Nat.mul_zero, Nat.zero_add]
        rfl
      show eM T3 (bet s (X2F E F G (T.1 67) (S.1 5) a b))
      rw [← e]
      exact v3)
    rw [bd_s z1]
    have y1' : fX12_tryPlan N 5 (pj T 52 31 (-1)) 0 (nI 2) 0 0 = some T2 := y1
    rw [bd_s y1']
    exact fin S2 T2 _ (z2.mono (by decide)) z3 y2 y3 y4 y5
