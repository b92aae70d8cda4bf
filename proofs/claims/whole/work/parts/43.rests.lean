/-! rests -/
def rqF (g1 g2 : Nat → Nat → Int32) (x y k : Nat) : Bool := !(decide (g1 x y < g1 k y)) && decide (g2 k x ≤ g2 y x)
/-- g1 one's, g2 the other's: both have no better -/
def rstF (g1 g2 : Nat → Nat → Int32) (x y : Nat) : Bool := allF (rqF g1 g2 x y) 4 0
def r16F (g1 g2 : Nat → Nat → Int32) (k : Nat) : Bool := rstF g1 g2 (k / 4) (k % 4)
theorem k_16 : ∀ x, x < 4 → ∀ y, y < 4 → nI x * 4 + nI y = nI (4 * x + y) ∧ nI x * 10 + nI y = 10 * nI x + nI y := by decide +kernel
theorem k_d4 : ∀ k, k < 16 → nI k / 4 = nI (k / 4) ∧ ir (nI k) 4 = nI (k % 4) := by decide +kernel
/-- the games are laid out in the class's two rows -/
def pld (g1 g2 : Nat → Nat → Int32) (S : SS) : Prop := ∀ x, x < 4 → ∀ y, y < 4 → S.1 45 (4 * x + y) = g1 x y ∧ S.1 46 (4 * x + y) = g2 y x
theorem c_rest_l {N x y : Nat} {S : SS} {g1 g2 : Nat → Nat → Int32} (h : pld g1 g2 S) (hx : x < 4) (hy : y < 4) : ∀ (j i n : Nat), i + j = 4 → j < n → fX1_isRest_l9 N n (nI x) (nI y) (nI (4 * x + y)) (nI i) S = some (i01 (allF (rqF g1 g2 x y) j i)) := by
  intro j
  induction j with
  | zero =>
    intro i n hi hn
    obtain ⟨n, rfl⟩ : ∃ q, n = q + 1 := ⟨n - 1, by omega⟩
    unfold fX1_isRest_l9
    rw [show i = 4 by omega, if_pos (by decide)]
    rfl
  | succ j ih =>
    intro i n hi hn
    obtain ⟨n, rfl⟩ : ∃ q, n = q + 1 := ⟨n - 1, by omega⟩
    have hi4 : i < 4 := by omega
    unfold fX1_isRest_l9 allF
    rw [if_neg (show ¬ (4 : Int32) ≤ nI i from nI_ge (b := 4) hi4 (by omega)), (k_16 i hi4 y hy).1, (k_16 x hx i hi4).1]
    simp (disch := omega) only [ck_in, ga_nI, lt_s9, nI_1]
    rw [(h x hx y hy).1, (h i hi4 y hy).1, (h x hx i hi4).2, (h x hx y hy).2, ih (i + 1) n (by omega) (by omega)]
    unfold rqF
    by_cases h1 : g1 x y < g1 i y <;> by_cases h2 : g2 i x ≤ g2 y x <;> simp [h1, h2, i01]
theorem c_rest {N x y : Nat} {S : SS} {g1 g2 : Nat → Nat → Int32} (hN : 20 ≤ N) (h : pld g1 g2 S) (hx : x < 4) (hy : y < 4) : fX1_isRest N S (nI x) (nI y) = some (i01 (rstF g1 g2 x y)) := by
  unfold fX1_isRest
  rw [lt_s9, (k_16 x hx y hy).1]
  exact c_rest_l h hx hy 4 0 N (by omega) (by omega)
theorem r16_eq {g1 g2 : Nat → Nat → Int32} {x y : Nat} (hy : y < 4) : r16F g1 g2 (4 * x + y) = rstF g1 g2 x y := by
  unfold r16F
  rw [show (4 * x + y) / 4 = x by omega, show (4 * x + y) % 4 = y by omega]
theorem c_cnt_i {N x : Nat} {S : SS} {g1 g2 : Nat → Nat → Int32} (hN : 20 ≤ N) (h : pld g1 g2 S) (hx : x < 4) (kc : Int32 → Int32 → SS → Option Int32) : ∀ (j y n : Nat), y + j = 4 → j < n → fX1_countRests_l11 N kc n (nI (cntF (r16F g1 g2) (4 * x + y))) (nI x) (nI y) S = kc (nI (cntF (r16F g1 g2) (4 * (x + 1)))) (nI (x + 1)) S := by
  intro j
  induction j with
  | zero =>
    intro y n hi hn
    obtain ⟨n, rfl⟩ : ∃ q, n = q + 1 := ⟨n - 1, by omega⟩
    unfold fX1_countRests_l11
    rw [show y = 4 by omega, if_pos (by decide), lt_s9, nI_1]
    rfl
  | succ j ih =>
    intro y n hi hn
    obtain ⟨n, rfl⟩ : ∃ q, n = q + 1 := ⟨n - 1, by omega⟩
    have hy : y < 4 := by omega
    have h2 := ih (y + 1) n (by omega) (by omega)
    rw [← Nat.add_assoc, cntF_s, r16_eq hy] at h2
    unfold fX1_countRests_l11
    rw [if_neg (show ¬ (4 : Int32) ≤ nI y from nI_ge (b := 4) hy (by omega)), bd_s (c_rest hN h hx hy)]
    simp only [lt_s9, nI_1]
    cases hc : rstF g1 g2 x y
    · rw [ifi0]
      rw [hc] at h2
      exact h2
    · rw [ifi1]
      rw [hc] at h2
      exact h2
theorem c_cnt_o {N : Nat} {S : SS} {g1 g2 : Nat → Nat → Int32} (hN : 20 ≤ N) (h : pld g1 g2 S) : ∀ (j x n : Nat), x + j = 4 → j < n → fX1_countRests_l4 N n (nI (cntF (r16F g1 g2) (4 * x))) (nI x) S = some (nI (cntF (r16F g1 g2) 16)) := by
  intro j
  induction j with
  | zero =>
    intro x n hi hn
    obtain ⟨n, rfl⟩ : ∃ q, n = q + 1 := ⟨n - 1, by omega⟩
    unfold fX1_countRests_l4
    rw [show x = 4 by omega, if_pos (by decide)]
  | succ j ih =>
    intro x n hi hn
    obtain ⟨n, rfl⟩ : ∃ q, n = q + 1 := ⟨n - 1, by omega⟩
    have hx : x < 4 := by omega
    unfold fX1_countRests_l4
    rw [if_neg (show ¬ (4 : Int32) ≤ nI x from nI_ge (b := 4) hx (by omega))]
    have h2 := c_cnt_i (N := N) hN h hx (fX1_countRests_l4 N n) 4 0 N (by omega) (by omega)
    exact h2.trans (ih (x + 1) n (by omega) (by omega))
/-- the l-th from k on, told by g -/
def selO (P : Nat → Bool) (g : Nat → Int32) : Nat → Nat → Nat → Int32
  | 0, _, _ => -1
  | j + 1, k, l => if P k then (if l = 0 then g k else selO P g j (k + 1) (l - 1)) else selO P g j (k + 1) l
def g16 (k : Nat) : Int32 := 10 * nI (k / 4) + nI (k % 4)
theorem c_at_i {N x : Nat} {S : SS} {g1 g2 : Nat → Nat → Int32} (hN : 20 ≤ N) (h : pld g1 g2 S) (hx : x < 4) (kc : Int32 → Int32 → SS → Option Int32) (hkc : ∀ l, l < 2 ^ 31 → kc (nI l) (nI (x + 1)) S = some (selO (r16F g1 g2) g16 (16 - 4 * (x + 1)) (4 * (x + 1)) l)) : ∀ (j y n l : Nat), y + j = 4 → j < n → l < 2 ^ 31 → fX1_restAt_l12 N kc n (nI l) (nI x) (nI y) S = some (selO (r16F g1 g2) g16 (16 - 4 * x - y) (4 * x + y) l) := by
  intro j
  induction j with
  | zero =>
    intro y n l hi hn hl
    obtain ⟨n, rfl⟩ : ∃ q, n = q + 1 := ⟨n - 1, by omega⟩
    unfold fX1_restAt_l12
    rw [show y = 4 by omega, if_pos (by decide), lt_s9, nI_1, hkc l hl]
    congr 2
  | succ j ih =>
    intro y n l hi hn hl
    obtain ⟨n, rfl⟩ : ∃ q, n = q + 1 := ⟨n - 1, by omega⟩
    have hy : y < 4 := by omega
    have h2 := fun l hl => ih (y + 1) n l (by omega) (by omega) hl
    obtain ⟨q, hq⟩ : ∃ q, 16 - 4 * x - y = q + 1 := ⟨16 - 4 * x - y - 1, by omega⟩
    rw [hq, selO, r16_eq hy]
    rw [show 16 - 4 * x - (y + 1) = q by omega] at h2
    unfold fX1_restAt_l12
    rw [if_neg (show ¬ (4 : Int32) ≤ nI y from nI_ge (b := 4) hy (by omega)), bd_s (c_rest hN h hx hy)]
    simp only [lt_s9, nI_1]
    cases hc : rstF g1 g2 x y
    · rw [ifi0, if_neg (by decide)]
      exact h2 l hl
    · rw [ifi1, if_pos rfl]
      by_cases h0 : l = 0
      · subst h0
        rw [if_pos nI_0, if_pos rfl, (k_16 x hx y hy).2]
        unfold g16
        rw [show (4 * x + y) / 4 = x by omega, show (4 * x + y) % 4 = y by omega]
      · rw [if_neg (nI_ne0 (by omega) hl), if_neg h0, sb_m1 (by omega)]
        exact h2 (l - 1) (by omega)
theorem c_at_o {N : Nat} {S : SS} {g1 g2 : Nat → Nat → Int32} (hN : 20 ≤ N) (h : pld g1 g2 S) : ∀ (j x n l : Nat), x + j = 4 → j < n → l < 2 ^ 31 → fX1_restAt_l4 N n (nI l) (nI x) S = some (selO (r16F g1 g2) g16 (16 - 4 * x) (4 * x) l) := by
  intro j
  induction j with
  | zero =>
    intro x n l hi hn hl
    obtain ⟨n, rfl⟩ : ∃ q, n = q + 1 := ⟨n - 1, by omega⟩
    unfold fX1_restAt_l4
    rw [show x = 4 by omega, if_pos (by decide)]
    rfl
  | succ j ih =>
    intro x n l hi hn hl
    obtain ⟨n, rfl⟩ : ∃ q, n = q + 1 := ⟨n - 1, by omega⟩
    have hx : x < 4 := by omega
    unfold fX1_restAt_l4
    rw [if_neg (show ¬ (4 : Int32) ≤ nI x from nI_ge (b := 4) hx (by omega))]
    exact c_at_i (N := N) hN h hx (fX1_restAt_l4 N n) (fun l hl => ih (x + 1) n l (by omega) (by omega) hl) 4 0 N l (by omega) (by omega) hl
/-- an index below 0 finds nothing -/
theorem c_neg_i {N x : Nat} {S : SS} {g1 g2 : Nat → Nat → Int32} (hN : 20 ≤ N) (h : pld g1 g2 S) (hx : x < 4) {i : Int32} (hi0 : i < 0) (kc : Int32 → Int32 → SS → Option Int32) (hkc : ∀ c, c ≤ 4 * (x + 1) → kc (i - nI c) (nI (x + 1)) S = some (-1)) : ∀ (j y n c : Nat), y + j = 4 → j < n → c ≤ 4 * x + y → fX1_restAt_l12 N kc n (i - nI c) (nI x) (nI y) S = some (-1) := by
  intro j
  induction j with
  | zero =>
    intro y n c hi hn hc
    obtain ⟨n, rfl⟩ : ∃ q, n = q + 1 := ⟨n - 1, by omega⟩
    unfold fX1_restAt_l12
    rw [show y = 4 by omega, if_pos (by decide), lt_s9, nI_1]
    exact hkc c (by omega)
  | succ j ih =>
    intro y n c hi hn hc
    obtain ⟨n, rfl⟩ : ∃ q, n = q + 1 := ⟨n - 1, by omega⟩
    have hy : y < 4 := by omega
    unfold fX1_restAt_l12
    rw [if_neg (show ¬ (4 : Int32) ≤ nI y from nI_ge (b := 4) hy (by omega)), bd_s (c_rest hN h hx hy)]
    simp only [lt_s9, nI_1]
    cases rstF g1 g2 x y
    · rw [ifi0]
      exact ih (y + 1) n c (by omega) (by omega) (by omega)
    · have hne : ¬ i - nI c = 0 := fun z => by
        have : i = nI c := by
          have z2 := congrArg (fun q => q + nI c) z
          simpa [Int32.sub_add_cancel] using z2
        exact nI_pos (n := c) (by omega) (this ▸ hi0)
      rw [ifi1, if_neg hne, show i - nI c + -1 = i - nI (c + 1) by rw [nI_succ, ← Int32.sub_sub, Int32.sub_eq_add_neg (i - nI c)]]
      exact ih (y + 1) n (c + 1) (by omega) (by omega) (by omega)
theorem c_neg_o {N : Nat} {S : SS} {g1 g2 : Nat → Nat → Int32} (hN : 20 ≤ N) (h : pld g1 g2 S) {i : Int32} (hi0 : i < 0) : ∀ (j x n c : Nat), x + j = 4 → j < n → c ≤ 4 * x → fX1_restAt_l4 N n (i - nI c) (nI x) S = some (-1) := by
  intro j
  induction j with
  | zero =>
    intro x n c hi hn hc
    obtain ⟨n, rfl⟩ : ∃ q, n = q + 1 := ⟨n - 1, by omega⟩
    unfold fX1_restAt_l4
    rw [show x = 4 by omega, if_pos (by decide)]
  | succ j ih =>
    intro x n c hi hn hc
    obtain ⟨n, rfl⟩ : ∃ q, n = q + 1 := ⟨n - 1, by omega⟩
    have hx : x < 4 := by omega
    unfold fX1_restAt_l4
    rw [if_neg (show ¬ (4 : Int32) ≤ nI x from nI_ge (b := 4) hx (by omega))]
    exact c_neg_i (N := N) hN h hx hi0 (fX1_restAt_l4 N n) (fun c hc => ih (x + 1) n c (by omega) (by omega) hc) 4 0 N c (by omega) (by omega) (by omega)
/-! the games played and laid out -/
theorem c_play_i {E N F H a b x : Nat} {G : Int32 → Int32 → Int32 → Int32 → Int32 → Bool} {pl m : Nat → Int32} {S0 : SS} (hN : 20 ≤ N) (hk : Kx E N F H G pl S0) (hv : Lv E 18 S0 m) (hw : wfL E m) (ha : a < E) (hb : b < E) (hab : a ≠ b) (hx : x < 4) (kc : Int32 → Int32 → Int32 → SS → Option SS) : ∀ (j y n : Nat) (S : SS), Fr [16, 17, 45, 46] S0 S → (∀ x' y', y' < 4 → 4 * x' + y' < 4 * x + y → S.1 45 (4 * x' + y') = gmF G m pl E a b x' y' ∧ S.1 46 (4 * x' + y') = gmF G m pl E b a y' x') → y + j = 4 → j < n → ∃ S2, fX1_play_l10 N kc n (nI a) (nI b) (nI x) (nI y) S = kc (nI a) (nI b) (nI (x + 1)) S2 ∧ Fr [16, 17, 45, 46] S0 S2 ∧ ∀ x' y', y' < 4 → 4 * x' + y' < 4 * (x + 1) → S2.1 45 (4 * x' + y') = gmF G m pl E a b x' y' ∧ S2.1 46 (4 * x' + y') = gmF G m pl E b a y' x' := by
  have hE := hk.1
  intro j
  induction j with
  | zero =>
    intro y n S fS hg hi hn
    obtain ⟨n, rfl⟩ : ∃ q, n = q + 1 := ⟨n - 1, by omega⟩
    unfold fX1_play_l10
    rw [show y = 4 by omega, if_pos (by decide), lt_s9, nI_1]
    exact ⟨S, rfl, fS, fun x' y' h1 h2 => hg x' y' h1 (by omega)⟩
  | succ j ih =>
    intro y n S fS hg hi hn
    obtain ⟨n, rfl⟩ : ∃ q, n = q + 1 := ⟨n - 1, by omega⟩
    have hy : y < 4 := by omega
    have k45 : ∀ k, k ∈ ([16, 17, 45, 46] : List Nat) → k ≠ 3 ∧ k ≠ 5 ∧ k ≠ 14 ∧ (k < 48 ∨ 52 ≤ k) := by decide
    have k46 : ∀ x, x ∈ ([16, 17, 45, 46] : List Nat) → x < 18 ∨ 18 + 4 < x := by decide
    obtain ⟨S1, z1, z2⟩ := c_has (x := x) (y := y) (by omega) (hk.f fS k45) (hv.f fS k46) hw ha hb hab hx hy
    have f1 : Fr [16, 17, 45, 46] S0 S1 := fS.tr (z2.mono (by decide))
    have f2 : Fr [16, 17, 45, 46] S0 (pa S1 45 (nI (4 * x + y)) (gmF G m pl E a b x y)) := f1.tr (Fr.pa (by decide))
    obtain ⟨S3, w1, w2⟩ := c_has (x := y) (y := x) (by omega) (hk.f f2 k45) (hv.f f2 k46) hw hb ha (Ne.symm hab) hy hx
    have f3 : Fr [16, 17, 45, 46] S0 S3 := f2.tr (w2.mono (by decide))
    have f4 : Fr [16, 17, 45, 46] S0 (pa S3 46 (nI (4 * x + y)) (gmF G m pl E b a y x)) := f3.tr (Fr.pa (by decide))
    unfold fX1_play_l10
    rw [if_neg (show ¬ (4 : Int32) ≤ nI y from nI_ge (b := 4) hy (by omega)), b2_s z1, (k_16 x hx y hy).1, ck_in (by omega) (by omega), lt_s9, b2_s w1, ck_in (by omega) (by omega), lt_s9, lt_s9, nI_1]
    refine ih (y + 1) n _ f4 (fun x' y' h1 h2 => ?_) (by omega) (by omega)
    have hc : (nI (4 * x + y)).toNatClampNeg = 4 * x + y := nI_clamp (by omega)
    have e45 : S3.1 45 = upd (S1.1 45) (4 * x + y) (gmF G m pl E a b x y) := by
      rw [w2.row (by decide), row_pa, if_pos rfl, hc]
    have e46 : S3.1 46 = S1.1 46 := by
      rw [w2.row (by decide), row_pa, if_neg (by decide)]
    rw [row_pa, if_neg (by decide), row_pa, if_pos rfl, hc, e45, e46]
    by_cases he : 4 * x' + y' = 4 * x + y
    · have e1 : x' = x := by omega
      have e2 : y' = y := by omega
      subst e1 e2
      rw [pk_us, pk_us]
      exact ⟨rfl, rfl⟩
    · rw [pk_un he, pk_un he, z2.row (by decide), z2.row (by decide)]
      exact hg x' y' h1 (by omega)
theorem c_play_o {E N F H a b : Nat} {G : Int32 → Int32 → Int32 → Int32 → Int32 → Bool} {pl m : Nat → Int32} {S0 : SS} (hN : 20 ≤ N) (hk : Kx E N F H G pl S0) (hv : Lv E 18 S0 m) (hw : wfL E m) (ha : a < E) (hb : b < E) (hab : a ≠ b) : ∀ (j x n : Nat) (S : SS), Fr [16, 17, 45, 46] S0 S → (∀ x' y', y' < 4 → 4 * x' + y' < 4 * x → S.1 45 (4 * x' + y') = gmF G m pl E a b x' y' ∧ S.1 46 (4 * x' + y') = gmF G m pl E b a y' x') → x + j = 4 → j < n → ∃ S2, fX1_play_l2 N n (nI a) (nI b) (nI x) S = some S2 ∧ Fr [16, 17, 45, 46] S0 S2 ∧ pld (gmF G m pl E a b) (gmF G m pl E b a) S2 := by
  intro j
  induction j with
  | zero =>
    intro x n S fS hg hi hn
    obtain ⟨n, rfl⟩ : ∃ q, n = q + 1 := ⟨n - 1, by omega⟩
    unfold fX1_play_l2
    rw [show x = 4 by omega, if_pos (by decide)]
    exact ⟨S, rfl, fS, fun x' hx' y' hy' => hg x' y' hy' (by omega)⟩
  | succ j ih =>
    intro x n S fS hg hi hn
    obtain ⟨n, rfl⟩ : ∃ q, n = q + 1 := ⟨n - 1, by omega⟩
    have hx : x < 4 := by omega
    unfold fX1_play_l2
    rw [if_neg (show ¬ (4 : Int32) ≤ nI x from nI_ge (b := 4) hx (by omega))]
    obtain ⟨S2, z1, z2, z3⟩ := c_play_i hN hk hv hw ha hb hab hx (fX1_play_l2 N n) 4 0 N S fS hg (by omega) (by omega)
    have z1' : fX1_play_l10 N (fX1_play_l2 N n) N (nI a) (nI b) (nI x) 0 S = _ := z1
    rw [z1']
    exact ih (x + 1) n S2 z2 z3 (by omega) (by omega)
/-! the reference's -/
theorem m_rest_l {E N F H a b x y : Nat} {G : Int32 → Int32 → Int32 → Int32 → Int32 → Bool} {pl : Nat → Int32} {T0 : SS} (hN : 20 ≤ N) (hk : Mx E N F H G pl T0) (hpl : ∀ d, d < E → ∃ v, v ≤ 6 ∧ pl d = nI v) (hw : wfL E (T0.1 67)) (ha : a < E) (hb : b < E) (hab : a ≠ b) (hx : x < 4) (hy : y < 4) : ∀ (j i n : Nat) (T : SS), Fr [61, 62] T0 T → i + j = 4 → j < n → ∃ T2, fX12_isRest_l3 N n (nI a) (nI b) (nI x) (nI y) (nI i) T = some (T2, i01 (allF (rqF (gmF G (T0.1 67) pl E a b) (gmF G (T0.1 67) pl E b a) x y) j i)) ∧ Fr [61, 62] T0 T2 := by
  intro j
  induction j with
  | zero =>
    intro i n T fT hi hn
    obtain ⟨n, rfl⟩ : ∃ q, n = q + 1 := ⟨n - 1, by omega⟩
    unfold fX12_isRest_l3
    rw [show i = 4 by omega, if_pos (by decide)]
    exact ⟨T, rfl, fT⟩
  | succ j ih =>
    intro i n T fT hi hn
    obtain ⟨n, rfl⟩ : ∃ q, n = q + 1 := ⟨n - 1, by omega⟩
    have hi4 : i < 4 := by omega
    have gg : ∀ (T' : SS) (p q u v : Nat), Fr [61, 62] T0 T' → p < E → q < E → p ≠ q → u < 4 → v < 4 → ∃ T2, fX12_gameOf N T' (nI p) (nI q) (nI u) (nI v) = some (T2, gmF G (T0.1 67) pl E p q u v) ∧ Fr [61, 62] T0 T2 := fun T' p q u v f h1 h2 h3 h4 h5 => by
      have e67 := f.row (k := 67) (by decide)
      obtain ⟨T2, z1, z2⟩ := m_game (x := u) (y := v) (by omega) (hk.f f mx6162) hpl (by rw [e67]; exact hw) h1 h2 h3 h4 h5
      rw [e67] at z1
      exact ⟨T2, z1, f.tr z2⟩
    obtain ⟨T1, z1, f1⟩ := gg T a b i y fT ha hb hab hi4 hy
    obtain ⟨T2, z2, f2⟩ := gg T1 a b x y f1 ha hb hab hx hy
    obtain ⟨T3, z3, f3⟩ := gg T2 b a i x f2 hb ha (Ne.symm hab) hi4 hx
    obtain ⟨T4, z4, f4⟩ := gg T3 b a y x f3 hb ha (Ne.symm hab) hy hx
    obtain ⟨T5, z5, f5⟩ := ih (i + 1) n T4 f4 (by omega) (by omega)
    unfold fX12_isRest_l3 allF
    rw [if_neg (show ¬ (4 : Int32) ≤ nI i from nI_ge (b := 4) hi4 (by omega)), b2_s z1, b2_s z2, b2_s z3, b2_s z4, lt_s9, nI_1, z5]
    by_cases h1 : gmF G (T0.1 67) pl E a b x y < gmF G (T0.1 67) pl E a b i y
    · have hq : rqF (gmF G (T0.1 67) pl E a b) (gmF G (T0.1 67) pl E b a) x y i = false := by simp [rqF, h1]
      rw [if_pos h1, hq]
      exact ⟨T2, rfl, f2⟩
    · rw [if_neg h1]
      by_cases h2 : gmF G (T0.1 67) pl E b a i x ≤ gmF G (T0.1 67) pl E b a y x
      · have hq : rqF (gmF G (T0.1 67) pl E a b) (gmF G (T0.1 67) pl E b a) x y i = true := by simp [rqF, h1, h2]
        rw [if_pos h2, hq]
        exact ⟨T5, rfl, f5⟩
      · have hq : rqF (gmF G (T0.1 67) pl E a b) (gmF G (T0.1 67) pl E b a) x y i = false := by simp [rqF, h2]
        rw [if_neg h2, hq]
        exact ⟨T4, rfl, f4⟩
theorem m_rest {E N F H a b x y : Nat} {G : Int32 → Int32 → Int32 → Int32 → Int32 → Bool} {pl : Nat → Int32} {T0 T : SS} (hN : 20 ≤ N) (hk : Mx E N F H G pl T0) (hpl : ∀ d, d < E → ∃ v, v ≤ 6 ∧ pl d = nI v) (hw : wfL E (T0.1 67)) (ha : a < E) (hb : b < E) (hab : a ≠ b) (hx : x < 4) (hy : y < 4) (fT : Fr [61, 62] T0 T) : ∃ T2, fX12_isRest N T (nI a) (nI b) (nI x) (nI y) = some (T2, i01 (rstF (gmF G (T0.1 67) pl E a b) (gmF G (T0.1 67) pl E b a) x y)) ∧ Fr [61, 62] T0 T2 := m_rest_l hN hk hpl hw ha hb hab hx hy 4 0 N T fT (by omega) (by omega)
theorem m_rests_l {E N F H a b : Nat} {G : Int32 → Int32 → Int32 → Int32 → Int32 → Bool} {pl : Nat → Int32} {T0 : SS} (hN : 20 ≤ N) (hk : Mx E N F H G pl T0) (hpl : ∀ d, d < E → ∃ v, v ≤ 6 ∧ pl d = nI v) (hw : wfL E (T0.1 67)) (ha : a < E) (hb : b < E) (hab : a ≠ b) (t : Nat) (ht : t < 2 ^ 31) : ∀ (j i n c : Nat) (T : SS), Fr [61, 62] T0 T → i + j = 16 → j < n → c ≤ t → ∃ T2, fX12_rests_l22 N n (nI a) (nI b) (nI t) (nI c) (nI i) T = some (T2, selO (r16F (gmF G (T0.1 67) pl E a b) (gmF G (T0.1 67) pl E b a)) g16 j i (t - c)) ∧ Fr [61, 62] T0 T2 := by
  intro j
  induction j with
  | zero =>
    intro i n c T fT hi hn hc
    obtain ⟨n, rfl⟩ : ∃ q, n = q + 1 := ⟨n - 1, by omega⟩
    unfold fX12_rests_l22
    rw [show i = 16 by omega, if_pos (by decide), if_neg (nI_m1 ht)]
    exact ⟨T, rfl, fT⟩
  | succ j ih =>
    intro i n c T fT hi hn hc
    obtain ⟨n, rfl⟩ : ∃ q, n = q + 1 := ⟨n - 1, by omega⟩
    obtain ⟨T2, z1, z3⟩ := m_rest (x := i / 4) (y := i % 4) hN hk hpl hw ha hb hab (by omega) (by omega) fT
    unfold fX12_rests_l22 selO
    rw [if_neg (show ¬ (16 : Int32) ≤ nI i from nI_ge (b := 16) (by omega) (by omega)), (k_d4 i (by omega)).1, (k_d4 i (by omega)).2, b2_s z1]
    simp only [lt_s9, nI_1]
    show ∃ T2, (if i01 (r16F (gmF G (T0.1 67) pl E a b) (gmF G (T0.1 67) pl E b a) i) = 0 then _ else _) = _ ∧ _
    cases hP : r16F (gmF G (T0.1 67) pl E a b) (gmF G (T0.1 67) pl E b a) i
    · rw [ifi0, if_neg (by decide)]
      exact ih (i + 1) n c T2 z3 (by omega) (by omega) hc
    · rw [ifi1, if_pos rfl]
      by_cases h0 : c = t
      · subst h0
        rw [if_pos rfl, if_pos (by omega)]
        exact ⟨T2, rfl, z3⟩
      · rw [if_neg (fun z => h0 ((nI_eq (by omega) ht).mp z)), if_neg (by omega), show t - c - 1 = t - (c + 1) by omega]
        exact ih (i + 1) n (c + 1) T2 z3 (by omega) (by omega) (by omega)
theorem cntF_le (P : Nat → Bool) : ∀ n, cntF P n ≤ n
  | 0 => Nat.le_refl 0
  | n + 1 => by
    have := cntF_le P n
    rw [cntF_s]
    split <;> omega
theorem m_restsc_l {E N F H a b : Nat} {G : Int32 → Int32 → Int32 → Int32 → Int32 → Bool} {pl : Nat → Int32} {T0 : SS} (hN : 20 ≤ N) (hk : Mx E N F H G pl T0) (hpl : ∀ d, d < E → ∃ v, v ≤ 6 ∧ pl d = nI v) (hw : wfL E (T0.1 67)) (ha : a < E) (hb : b < E) (hab : a ≠ b) : ∀ (j i n : Nat) (T : SS), Fr [61, 62] T0 T → i + j = 16 → j < n → ∃ T2, fX12_rests_l22 N n (nI a) (nI b) (-1) (nI (cntF (r16F (gmF G (T0.1 67) pl E a b) (gmF G (T0.1 67) pl E b a)) i)) (nI i) T = some (T2, nI (cntF (r16F (gmF G (T0.1 67) pl E a b) (gmF G (T0.1 67) pl E b a)) 16)) ∧ Fr [61, 62] T0 T2 := by
  intro j
  induction j with
  | zero =>
    intro i n T fT hi hn
    obtain ⟨n, rfl⟩ : ∃ q, n = q + 1 := ⟨n - 1, by omega⟩
    unfold fX12_rests_l22
    rw [show i = 16 by omega, if_pos (by decide), if_pos rfl]
    exact ⟨T, rfl, fT⟩
  | succ j ih =>
    intro i n T fT hi hn
    obtain ⟨n, rfl⟩ : ∃ q, n = q + 1 := ⟨n - 1, by omega⟩
    obtain ⟨T2, z1, z3⟩ := m_rest (x := i / 4) (y := i % 4) hN hk hpl hw ha hb hab (by omega) (by omega) fT
    have h2 := ih (i + 1) n T2 z3 (by omega) (by omega)
    have hle := cntF_le (r16F (gmF G (T0.1 67) pl E a b) (gmF G (T0.1 67) pl E b a)) i
    rw [cntF_s] at h2
    unfold fX12_rests_l22
    rw [if_neg (show ¬ (16 : Int32) ≤ nI i from nI_ge (b := 16) (by omega) (by omega)), (k_d4 i (by omega)).1, (k_d4 i (by omega)).2, b2_s z1]
    simp only [lt_s9, nI_1]
    show ∃ T2, (if i01 (r16F (gmF G (T0.1 67) pl E a b) (gmF G (T0.1 67) pl E b a) i) = 0 then _ else _) = _ ∧ _
    cases hP : r16F (gmF G (T0.1 67) pl E a b) (gmF G (T0.1 67) pl E b a) i
    · rw [ifi0]
      rw [hP] at h2
      exact h2
    · rw [ifi1, if_neg (nI_m1 (by omega))]
      rw [hP] at h2
      exact h2
theorem s_rests {N : Nat} (hN : 20 ≤ N) {S T : SS} (h : Rel N S T) (a1 a2 a3 : Int32) : ∃ (r : Int32) (S' T' : SS), (fX11_rests N S a1 a2 a3 = some (S', r)) ∧ (fX12_rests N T a1 a2 a3 = some (T', r)) ∧ Rel N S' T' := by
  obtain ⟨E, ht, hm, hl, ha, hi, hs, hz⟩ := id h
  have hc := cx_of hm ha
  obtain ⟨hE, _, hv, hw⟩ := id hc
  unfold fX11_rests fX12_rests
  rcases two3 (N := N) hm a1 a2 with ⟨e1, e2⟩ | ⟨a, b, qa, qb, hn, rfl, rfl, e1, e2, e3, e4⟩
  · rw [bd_s e1]
    refine ⟨-1, S, T, ?_, rfl, h⟩
    rcases e2 with e2 | ⟨e2, e3 | ⟨e3, e4⟩⟩
    · rw [bd_s e2]
      rfl
    · rw [bd_s e2, bd_s e3]
      rfl
    · rw [bd_s e2, bd_s e3, if_pos e4]
      rfl
  obtain ⟨F, H, G, hK, hM⟩ := km_of (show 0 < E by omega) hm hl
  have hpl := pl6 (show 0 < E by omega) hm
  obtain ⟨S2, p1, p2, p3⟩ := c_play_o hN hK hv hw qa qb hn 4 0 N S Fr.rf (fun x' y' _ q => absurd q (by omega)) (by omega) (by omega)
  have p1' : fX1_play N S (nI a) (nI b) = some S2 := p1
  rw [bd_s e1, bd_s e2, bd_s e3, if_neg n10, if_neg n10, if_neg n10, if_neg e4, bd_s p1']
  by_cases h1 : a3 = -1
  · subst h1
    obtain ⟨T2, y1, y2⟩ := m_restsc_l hN hM hpl hw qa qb hn 16 0 N T Fr.rf (by omega) (by omega)
    have y1' : fX12_rests_l22 N N (nI a) (nI b) (-1) 0 0 T = _ := y1
    have c1 : fX1_countRests N S2 = _ := c_cnt_o hN p3 4 0 N (by omega) (by omega)
    rw [if_pos rfl, if_pos (by decide), y1', bd_s c1]
    exact ⟨_, S2, T2, rfl, rfl, rel_fr h (p2.mono (by decide)) (y2.mono (by decide))⟩
  · rw [if_neg h1]
    by_cases h2 : a3 < 0
    · have h3 : ¬ -1 ≤ a3 := fun z => by
        apply h1
        apply Int32.toInt_inj.mp
        have z1 := Int32.le_iff_toInt_le.mp z
        have z2 := Int32.lt_iff_toInt_lt.mp h2
        have z3 : (-1 : Int32).toInt = -1 := by decide
        have z4 : (0 : Int32).toInt = 0 := by decide
        omega
      have c1 : fX1_restAt N S2 (a3 - nI 0) = some (-1) := c_neg_o hN p3 h2 4 0 N 0 (by omega) (by omega) (by omega)
      rw [nI_0, Int32.sub_zero] at c1
      rw [if_neg h3, bd_s c1]
      exact ⟨_, S2, T, rfl, rfl, rel_fr h (p2.mono (by decide)) Fr.rf⟩
    · obtain ⟨t, ht', rfl⟩ := nI_of h2
      obtain ⟨T2, y1, y2⟩ := m_rests_l hN hM hpl hw qa qb hn t ht' 16 0 N 0 T Fr.rf (by omega) (by omega) (by omega)
      have y1' : fX12_rests_l22 N N (nI a) (nI b) (nI t) 0 0 T = _ := y1
      have c1 : fX1_restAt N S2 (nI t) = _ := c_at_o hN p3 4 0 N t (by omega) (by omega) ht'
      rw [bd_s c1, if_pos (by
        rw [Int32.le_iff_toInt_le, nI_toInt ht']
        have z3 : (-1 : Int32).toInt = -1 := by decide
        omega), y1']
      exact ⟨_, S2, T2, rfl, rfl, rel_fr h (p2.mono (by decide)) (y2.mono (by decide))⟩
