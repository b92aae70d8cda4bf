/-! filled rows, followers, rack, most -/
theorem fill_l {N q L : Nat} {v : Int32} {S0 : SS} (hL : aln S0.2.2 q = L) (hL2 : L < 2 ^ 31) : ∀ (j i n : Nat) (S : SS), Fr [q] S0 S → (∀ k, S.1 q k = if k < i then v else S0.1 q k) → i + j = L → j < n → ∃ S2, fJ7_fill_53178_l5 N q n v (nI i) (nI L) S = some S2 ∧ Fr [q] S0 S2 ∧ ∀ k, S2.1 q k = if k < L then v else S0.1 q k := by
  intro j
  induction j with
  | zero =>
    intro i n S fS hk hi hn
    obtain ⟨n, rfl⟩ : ∃ q, n = q + 1 := ⟨n - 1, by omega⟩
    have : i = L := by omega
    subst this
    unfold fJ7_fill_53178_l5
    rw [if_pos (nI_le (by omega) (by omega))]
    exact ⟨S, rfl, fS, hk⟩
  | succ j ih =>
    intro i n S fS hk hi hn
    obtain ⟨n, rfl⟩ : ∃ q, n = q + 1 := ⟨n - 1, by omega⟩
    unfold fJ7_fill_53178_l5
    rw [if_neg (nI_ge (by omega) (by omega)), fS.2, hL, ck_in (by omega) (by omega), lt_s9, lt_s9, nI_1]
    refine ih (i + 1) n _ (fS.tr (Fr.pa (by simp))) (fun k => ?_) (by omega) (by omega)
    rw [row_pa, if_pos rfl, nI_clamp (by omega)]
    by_cases h1 : k = i
    · subst h1
      rw [pk_us, if_pos (by omega)]
    · rw [pk_un h1, hk k]
      by_cases h2 : k < i
      · rw [if_pos h2, if_pos (by omega)]
      · rw [if_neg h2, if_neg (by omega)]
theorem fills {N q L : Nat} {v : Int32} {S : SS} (hL : aln S.2.2 q = L) (hL2 : L < 2 ^ 31) (hN : L < N) : ∃ S2, fJ7_fill_53178 N S q v = some S2 ∧ Fr [q] S S2 ∧ ∀ k, S2.1 q k = if k < L then v else S.1 q k := by
  unfold fJ7_fill_53178
  rw [lt_s9, hL]
  exact fill_l hL hL2 L 0 N S Fr.rf (fun k => by rw [if_neg (by omega)]) (by omega) (by omega)
theorem c_looses {E N k : Nat} {S : SS} {m : Nat → Int32} (hE : E ≤ 7) (hv : Lv E k S m) (hw : wfL E m) : ∀ (j i n : Nat), i + j = E → j < n → fX8_looseBits_l4 N k n (nI (bF (loF m) i)) (nI i) S = some (nI (bF (loF m) E)) := by
  intro j
  induction j with
  | zero =>
    intro i n hi hn
    obtain ⟨n, rfl⟩ : ∃ q, n = q + 1 := ⟨n - 1, by omega⟩
    unfold fX8_looseBits_l4
    rw [hv.1, if_pos (nI_le (by omega) (by omega)), show i = E by omega]
  | succ j ih =>
    intro i n hi hn
    obtain ⟨n, rfl⟩ : ∃ q, n = q + 1 := ⟨n - 1, by omega⟩
    have hi' : i < E := by omega
    unfold fX8_looseBits_l4
    rw [hv.1, if_neg (nI_ge (by omega) (by omega)), bd_s (c_loose hE hv hw hi'), lt_s9, lt_s9, nI_1]
    cases hc : loF m i
    · rw [ifi0, ← bF_no hc]
      exact ih (i + 1) n (by omega) (by omega)
    · rw [ifi1, lt_s9, bF_or (by omega) hc]
      exact ih (i + 1) n (by omega) (by omega)
theorem c_lb {E N k : Nat} {S : SS} {m : Nat → Int32} (hN : 9 ≤ N) (hE : E ≤ 7) (hv : Lv E k S m) (hw : wfL E m) : fX8_looseBits N S k = some (nI (bF (loF m) E)) := c_looses hE hv hw E 0 N (by omega) (by omega)
theorem m_looses {E N : Nat} {T : SS} (hE : E ≤ 7) (he : gi T 52 22 = nI E) (hw : wfL E (T.1 67)) : ∀ (j i n : Nat), i + j = E → j < n → fX12_looseOnes_l4 N n (nI (bF (loF (T.1 67)) i)) (nI i) T = some (nI (bF (loF (T.1 67)) E)) := by
  intro j
  induction j with
  | zero =>
    intro i n hi hn
    obtain ⟨n, rfl⟩ : ∃ q, n = q + 1 := ⟨n - 1, by omega⟩
    unfold fX12_looseOnes_l4
    rw [he, if_pos (nI_le (by omega) (by omega)), show i = E by omega]
  | succ j ih =>
    intro i n hi hn
    obtain ⟨n, rfl⟩ : ∃ q, n = q + 1 := ⟨n - 1, by omega⟩
    have hi' : i < E := by omega
    unfold fX12_looseOnes_l4
    rw [he, if_neg (nI_ge (by omega) (by omega)), bd_s (m_loose hE hw hi')]
    simp only [lt_s9, nI_1, or0]
    cases hc : loF (T.1 67) i
    · rw [ifi0, ← bF_no hc]
      exact ih (i + 1) n (by omega) (by omega)
    · rw [ifi1, bF_or (by omega) hc]
      exact ih (i + 1) n (by omega) (by omega)
theorem m_lb {E N : Nat} {T : SS} (hN : 9 ≤ N) (hE : E ≤ 7) (he : gi T 52 22 = nI E) (hw : wfL E (T.1 67)) : fX12_looseOnes N T = some (nI (bF (loF (T.1 67)) E)) := m_looses hE he hw E 0 N (by omega) (by omega)
theorem k_both : ∀ v, v < 128 → ∀ x, x < 7 → ∀ y, y < 7 → ((nI v &&& (sl 1 (nI x) ||| sl 1 (nI y))) = (sl 1 (nI x) ||| sl 1 (nI y)) ↔ (v.testBit x && v.testBit y) = true) := by decide +kernel
/-- who follows whom as the n-th of a row -/
def foF (G : Int32 → Int32 → Int32 → Int32 → Int32 → Bool) (m pl : Nat → Int32) (n : Int32) (a b : Nat) : Bool := !(decide (a = b)) && loF m a && loF m b && gwF G m pl a b n
/-- the pair has been gone through ahead of (x, y) -/
def prc (x y a b : Nat) : Bool := decide (min a b < x) || (decide (min a b = x) && decide (max a b < y))
/-- what the row of partners holds -/
def fol (E : Nat) (G : Int32 → Int32 → Int32 → Int32 → Int32 → Bool) (m pl : Nat → Int32) (n : Int32) (x y : Nat) (S : SS) : Prop := ∀ a, a < 7 → ∃ v, v < 128 ∧ S.1 35 a = nI v ∧ ∀ b, b < 7 → v.testBit b = (decide (a < E) && decide (b < E) && prc x y a b && foF G m pl n a b)
theorem fo_sym {E : Nat} {G : Int32 → Int32 → Int32 → Int32 → Int32 → Bool} {m pl : Nat → Int32} {n : Int32} (hw : wfL E m) (hpl : ∀ d, d < E → ∃ v, v ≤ 6 ∧ pl d = nI v) {a b : Nat} (ha : a < E) (hb : b < E) : foF G m pl n a b = foF G m pl n b a := by
  unfold foF
  rw [gw_sym n (hw.1 a ha).1 (hw.1 b hb).1 hpl ha hb]
  by_cases h : a = b
  · subst h
    rfl
  · have h2 : ¬ b = a := fun q => h q.symm
    simp only [h, h2, decide_false, Bool.not_false, Bool.true_and]
    rw [Bool.and_comm (loF m a)]
theorem prc_s {x y a b : Nat} (hxy : x < y) : prc x (y + 1) a b = (prc x y a b || (decide (a = x) && decide (b = y)) || (decide (a = y) && decide (b = x))) := by
  unfold prc
  by_cases h1 : min a b < x
  · simp [h1]
  · by_cases h2 : min a b = x
    · by_cases h3 : max a b < y
      · have h4 : max a b < y + 1 := by omega
        simp [h2, h3, h4]
      · by_cases h5 : max a b = y
        · have h4 : max a b < y + 1 := by omega
          have h6 : (a = x ∧ b = y) ∨ (a = y ∧ b = x) := by omega
          rcases h6 with ⟨rfl, rfl⟩ | ⟨rfl, rfl⟩
          · simp [h4, h2]
          · simp [h4, h2]
        · have h4 : ¬ max a b < y + 1 := by omega
          have h6 : ¬ (a = x ∧ b = y) := by omega
          have h7 : ¬ (a = y ∧ b = x) := by omega
          have h6' : (decide (a = x) && decide (b = y)) = false := by simpa using h6
          have h7' : (decide (a = y) && decide (b = x)) = false := by simpa using h7
          simp [h1, h3, h4, h6', h7']
    · have h6 : ¬ (a = x ∧ b = y) := by omega
      have h7 : ¬ (a = y ∧ b = x) := by omega
      have h6' : (decide (a = x) && decide (b = y)) = false := by simpa using h6
      have h7' : (decide (a = y) && decide (b = x)) = false := by simpa using h7
      simp [h1, h2, h6', h7']
theorem c_fo_i {E N F H x : Nat} {G : Int32 → Int32 → Int32 → Int32 → Int32 → Bool} {pl m : Nat → Int32} {nn : Int32} {S0 : SS} (hk : Kx E N F H G pl S0) (hv : Lv E 18 S0 m) (hw : wfL E m) (hpl : ∀ d, d < E → ∃ v, v ≤ 6 ∧ pl d = nI v) (hx : x < E) (kc : Int32 → Int32 → Int32 → SS → Option SS) : ∀ (j y n : Nat) (S : SS), Fr [16, 17, 35] S0 S → fol E G m pl nn x y S → x < y → y + j = E → j < n → ∃ S2, fX0_findFollowers_l26 N kc n (nI (bF (loF m) E)) nn (nI x) (nI y) S = kc (nI (bF (loF m) E)) nn (nI (x + 1)) S2 ∧ Fr [16, 17, 35] S0 S2 ∧ fol E G m pl nn x E S2 := by
  have hE := hk.1
  have k35 : ∀ k, k ∈ ([16, 17, 35] : List Nat) → k ≠ 3 ∧ k ≠ 5 ∧ k ≠ 14 ∧ (k < 48 ∨ 52 ≤ k) := by decide
  have k36 : ∀ x, x ∈ ([16, 17, 35] : List Nat) → x < 18 ∨ 18 + 4 < x := by decide
  intro j
  induction j with
  | zero =>
    intro y n S fS hg hxy hi hn
    obtain ⟨n, rfl⟩ : ∃ q, n = q + 1 := ⟨n - 1, by omega⟩
    unfold fX0_findFollowers_l26
    rw [(hv.f fS k36).1, if_pos (nI_le (by omega) (by omega)), lt_s9, nI_1]
    have : y = E := by omega
    subst this
    exact ⟨S, rfl, fS, hg⟩
  | succ j ih =>
    intro y n S fS hg hxy hi hn
    obtain ⟨n, rfl⟩ : ∃ q, n = q + 1 := ⟨n - 1, by omega⟩
    have hy : y < E := by omega
    have hb := k_both _ (bF_128 (loF m) hE) x (by omega) y (by omega)
    rw [bF_tb, bF_tb] at hb
    simp only [hx, hy, decide_true, Bool.true_and] at hb
    have hnxy : ¬ x = y := by omega
    unfold fX0_findFollowers_l26
    rw [(hv.f fS k36).1, if_neg (nI_ge (by omega) (by omega))]
    simp only [lt_s9, nI_1]
    have same : ∀ S' : SS, S'.1 35 = S.1 35 → foF G m pl nn x y = false → fol E G m pl nn x (y + 1) S' := fun S' e hf a ha => by
      obtain ⟨v, v1, v2, v3⟩ := hg a ha
      refine ⟨v, v1, by rw [e]; exact v2, fun b hb => ?_⟩
      rw [v3 b hb, prc_s hxy]
      by_cases q1 : a = x ∧ b = y
      · rw [q1.1, q1.2, hf]
        simp
      · by_cases q2 : a = y ∧ b = x
        · rw [q2.1, q2.2, ← fo_sym hw hpl hx hy, hf]
          simp
        · have q1' : (decide (a = x) && decide (b = y)) = false := by simpa using q1
          have q2' : (decide (a = y) && decide (b = x)) = false := by simpa using q2
          simp [q1', q2']
    by_cases hc : (loF m x && loF m y) = true
    · rw [if_pos (hb.mpr hc)]
      obtain ⟨S1, z1, z2⟩ := c_goes (hk.f fS k35) (hv.f fS k36) hx hy nn
      rw [b2_s z1]
      have f1 : Fr [16, 17, 35] S0 S1 := fS.tr (z2.mono (by decide))
      have e35 : S1.1 35 = S.1 35 := z2.row (by decide)
      have hfo : foF G m pl nn x y = gwF G m pl x y nn := by
        unfold foF
        rw [decide_eq_false hnxy]
        simp only [Bool.not_false, Bool.true_and]
        rw [hc, Bool.true_and]
      cases hq : gwF G m pl x y nn
      · rw [ifi0]
        exact ih (y + 1) n S1 f1 (same S1 e35 (by rw [hfo, hq])) (by omega) (by omega) (by omega)
      · rw [ifi1]
        obtain ⟨vx, x1, x2, x3⟩ := hg x (by omega)
        obtain ⟨vy, y1, y2, y3⟩ := hg y (by omega)
        simp (disch := omega) only [ck_in, ga_nI]
        have ex : S1.1 35 x = nI vx := by rw [e35, x2]
        rw [ex, (k_or vx x1 y (by omega)).1]
        have ey : (pa S1 35 (nI x) (nI (vx ||| 2 ^ y))).1 35 y = nI vy := by
          rw [row_pa, if_pos rfl, nI_clamp (by omega), pk_un (by omega), e35, y2]
        rw [ey, (k_or vy y1 x (by omega)).1]
        refine ih (y + 1) n _ ((f1.tr (Fr.pa (by decide))).tr (Fr.pa (by decide))) (fun a ha => ?_) (by omega) (by omega) (by omega)
        rw [row_pa, if_pos rfl, nI_clamp (by omega), row_pa, if_pos rfl, nI_clamp (by omega)]
        by_cases q1 : a = y
        · subst q1
          refine ⟨vy ||| 2 ^ x, (k_or vy y1 x (by omega)).2, pk_us, fun b hb => ?_⟩
          rw [tb_or, y3 b hb, prc_s hxy]
          by_cases q2 : b = x
          · subst q2
            have : foF G m pl nn a b = true := by rw [← fo_sym hw hpl hx hy, hfo, hq]
            simp [this, hx, hy]
          · have q3 : ¬ x = b := fun z => q2 z.symm
            have q4 : ¬ a = x := fun z => hnxy z.symm
            simp [q2, q3, q4]
        · rw [pk_un q1]
          by_cases q2 : a = x
          · subst q2
            refine ⟨vx ||| 2 ^ y, (k_or vx x1 y (by omega)).2, pk_us, fun b hb => ?_⟩
            rw [tb_or, x3 b hb, prc_s hxy]
            by_cases q3 : b = y
            · subst q3
              have : foF G m pl nn a b = true := by rw [hfo, hq]
              simp [this, hx, hy]
            · have q4 : ¬ y = b := fun z => q3 z.symm
              simp [q3, q4, hnxy]
          · rw [pk_un q2, e35]
            obtain ⟨v, v1, v2, v3⟩ := hg a ha
            refine ⟨v, v1, v2, fun b hb => ?_⟩
            rw [v3 b hb, prc_s hxy]
            simp [q1, q2]
    · rw [if_neg (fun z => hc (hb.mp z))]
      refine ih (y + 1) n S fS (same S rfl ?_) (by omega) (by omega) (by omega)
      unfold foF
      have hc' := eq_false_of_ne_true hc
      rw [Bool.and_assoc (!decide (x = y)), hc']
      simp
theorem prc_0 (a b : Nat) : prc 0 0 a b = false := by
  unfold prc
  simp
theorem c_fo_o {E N F H : Nat} {G : Int32 → Int32 → Int32 → Int32 → Int32 → Bool} {pl m : Nat → Int32} {nn : Int32} {S0 : SS} (hN : 9 ≤ N) (hk : Kx E N F H G pl S0) (hv : Lv E 18 S0 m) (hw : wfL E m) (hpl : ∀ d, d < E → ∃ v, v ≤ 6 ∧ pl d = nI v) : ∀ (j x n : Nat) (S : SS), Fr [16, 17, 35] S0 S → (∀ a, a < 7 → ∃ v, v < 128 ∧ S.1 35 a = nI v ∧ ∀ b, b < 7 → v.testBit b = (decide (a < E) && decide (b < E) && decide (min a b < x) && foF G m pl nn a b)) → x + j = E → j < n → ∃ S2, fX0_findFollowers_l10 N n (nI (bF (loF m) E)) nn (nI x) S = some S2 ∧ Fr [16, 17, 35] S0 S2 ∧ ∀ a, a < 7 → ∃ v, v < 128 ∧ S2.1 35 a = nI v ∧ ∀ b, b < 7 → v.testBit b = (decide (a < E) && decide (b < E) && foF G m pl nn a b) := by
  have hE := hk.1
  have k36 : ∀ x, x ∈ ([16, 17, 35] : List Nat) → x < 18 ∨ 18 + 4 < x := by decide
  intro j
  induction j with
  | zero =>
    intro x n S fS hg hi hn
    obtain ⟨n, rfl⟩ : ∃ q, n = q + 1 := ⟨n - 1, by omega⟩
    have : x = E := by omega
    subst this
    unfold fX0_findFollowers_l10
    rw [(hv.f fS k36).1, if_pos (nI_le (by omega) (by omega))]
    refine ⟨S, rfl, fS, fun a ha => ?_⟩
    obtain ⟨v, v1, v2, v3⟩ := hg a ha
    refine ⟨v, v1, v2, fun b hb => ?_⟩
    rw [v3 b hb]
    by_cases q1 : a < x
    · by_cases q2 : b < x
      · have q3 : min a b < x := by omega
        simp [q1, q2, q3]
      · simp [q2]
    · simp [q1]
  | succ j ih =>
    intro x n S fS hg hi hn
    obtain ⟨n, rfl⟩ : ∃ q, n = q + 1 := ⟨n - 1, by omega⟩
    have hx : x < E := by omega
    unfold fX0_findFollowers_l10
    rw [(hv.f fS k36).1, if_neg (nI_ge (by omega) (by omega)), lt_s9, nI_1]
    have h0 : fol E G m pl nn x (x + 1) S := fun a ha => by
      obtain ⟨v, v1, v2, v3⟩ := hg a ha
      refine ⟨v, v1, v2, fun b hb => ?_⟩
      rw [v3 b hb]
      unfold prc
      by_cases q1 : min a b < x
      · simp [q1]
      · by_cases q2 : min a b = x ∧ max a b < x + 1
        · have q3 : a = b := by omega
          have : foF G m pl nn a b = false := by
            unfold foF
            simp [q3]
          simp [this]
        · have q2' : (decide (min a b = x) && decide (max a b < x + 1)) = false := by simpa using q2
          simp [q1, q2']
    obtain ⟨S2, z1, z2, z3⟩ := c_fo_i (N := N) hk hv hw hpl hx (fX0_findFollowers_l10 N n) (E - (x + 1)) (x + 1) N S fS h0 (by omega) (by omega) (by omega)
    rw [z1]
    refine ih (x + 1) n S2 z2 (fun a ha => ?_) (by omega) (by omega)
    obtain ⟨v, v1, v2, v3⟩ := z3 a ha
    refine ⟨v, v1, v2, fun b hb => ?_⟩
    rw [v3 b hb]
    by_cases q1 : a < E
    · by_cases q2 : b < E
      · have : prc x E a b = decide (min a b < x + 1) := by
          unfold prc
          by_cases q3 : min a b < x
          · have q4 : min a b < x + 1 := by omega
            simp [q3, q4]
          · by_cases q5 : min a b = x
            · have q4 : min a b < x + 1 := by omega
              have q6 : max a b < E := by omega
              simp [q5, q4, q6]
            · have q4 : ¬ min a b < x + 1 := by omega
              simp [q3, q5, q4]
        simp [q1, q2, this]
      · simp [q2]
    · simp [q1]
theorem c_fo {E N F H : Nat} {G : Int32 → Int32 → Int32 → Int32 → Int32 → Bool} {pl m : Nat → Int32} {nn : Int32} {S : SS} (hN : 9 ≤ N) (hk : Kx E N F H G pl S) (hv : Lv E 18 S m) (hw : wfL E m) (hpl : ∀ d, d < E → ∃ v, v ≤ 6 ∧ pl d = nI v) : ∃ S2, fX0_findFollowers N S (nI (bF (loF m) E)) nn = some S2 ∧ Fr [16, 17, 35] S S2 ∧ ∀ a, a < 7 → ∃ v, v < 128 ∧ S2.1 35 a = nI v ∧ ∀ b, b < 7 → v.testBit b = (decide (a < E) && decide (b < E) && foF G m pl nn a b) := by
  have hE := hk.1
  obtain ⟨S1, z1, z2, z3⟩ := fills (N := N) (q := 35) (L := 7) (v := 0) (S := S) rfl (by omega) (by omega)
  unfold fX0_findFollowers
  rw [bd_s z1]
  have k35 : ∀ k, k ∈ ([35] : List Nat) → k ≠ 3 ∧ k ≠ 5 ∧ k ≠ 14 ∧ (k < 48 ∨ 52 ≤ k) := by decide
  obtain ⟨S2, y1, y2, y3⟩ := c_fo_o (nn := nn) hN (hk.f z2 k35) (hv.f z2 (by decide)) hw hpl E 0 N S1 Fr.rf (fun a ha => ⟨0, by omega, by rw [z3 a, if_pos ha]; rfl, fun b _ => by simp⟩) (by omega) (by omega)
  exact ⟨S2, y1, (z2.mono (by decide)).tr y2, y3⟩
