/-! plan: the class -/
theorem k_ab : ∀ a, a < 7 → ∀ b, b < 7 → nI a * 10 + nI b = nI (10 * a + b) := by decide +kernel
theorem nI_i01 (g : Bool) : nI g.toNat = i01 g := by cases g <;> rfl
def X1F (G : Int32 → Int32 → Int32 → Int32 → Int32 → Bool) (m pl : Nat → Int32) (a b : Nat) : Nat × Nat := ((gwF G m pl a b (nI (tw m a).length)).toNat, 10 * a + b)
def lsF (E : Nat) (G : Int32 → Int32 → Int32 → Int32 → Int32 → Bool) (m pl : Nat → Int32) : List (Nat × Nat) := cK E (opF m) (X1F G m pl) (E * E) 0
def X2F (E F : Nat) (G : Int32 → Int32 → Int32 → Int32 → Int32 → Bool) (m pl : Nat → Int32) (a b : Nat) : Nat × Nat :=
  match (lsF E G (tryF (gwF G m pl a b (nI (tw m a).length)) F m a b) pl).foldl bet none with
  | none => ((gwF G m pl a b (nI (tw m a).length)).toNat, 10 * a + b)
  | some c => mvF (gwF G m pl a b (nI (tw m a).length)).toNat (10 * a + b) c
def eC (S : SS) : Option (Nat × Nat) → Prop
  | none => gi S 29 10 = 0 ∧ gi S 29 11 = -1
  | some c => gi S 29 10 = nI c.1 ∧ gi S 29 11 = nI c.2
theorem eC_c {S S' : SS} (h : S'.1 29 = S.1 29) : ∀ {s : Option (Nat × Nat)}, eC S s → eC S' s
  | none, q => by
    unfold eC gi at *
    rw [h]
    exact q
  | some c, q => by
    unfold eC gi at *
    rw [h]
    exact q
theorem tn1 (g : Bool) : g.toNat ≤ 1 := by cases g <;> decide
theorem ls_bd {E : Nat} {G : Int32 → Int32 → Int32 → Int32 → Int32 → Bool} {m pl : Nat → Int32} (hE : E ≤ 7) {c : Nat × Nat} (h : (lsF E G m pl).foldl bet none = some c) : c.1 ≤ 1 ∧ c.2 < 100 := by
  rcases bet_mem _ _ _ h with q | q
  · cases q
  · obtain ⟨i, h1, h2, rfl⟩ := cK_mem _ _ _ q
    have h3 := kin hE (i := i) (by omega)
    have h4 := tn1 (gwF G m pl (i / E) (i % E) (nI (tw m (i / E)).length))
    unfold X1F
    exact ⟨h4, by show 10 * (i / E) + i % E < 100; omega⟩
theorem X2_bd {E F : Nat} {G : Int32 → Int32 → Int32 → Int32 → Int32 → Bool} {m pl : Nat → Int32} {a b : Nat} (hE : E ≤ 7) : (X2F E F G m pl a b).1 ≤ 2 ∧ ((X2F E F G m pl a b).1 = 2 → 100 * (10 * a + b) ≤ (X2F E F G m pl a b).2) ∧ (X2F E F G m pl a b).2 < 100 * (10 * a + b + 1) := by
  have h4 := tn1 (gwF G m pl a b (nI (tw m a).length))
  unfold X2F
  cases hq : (lsF E G (tryF (gwF G m pl a b (nI (tw m a).length)) F m a b) pl).foldl bet none with
  | none =>
    dsimp only
    omega
  | some c =>
    have h5 := ls_bd hE hq
    dsimp only [mvF]
    omega
theorem c_ft_i {E N F H k a : Nat} {G : Int32 → Int32 → Int32 → Int32 → Int32 → Bool} {pl m : Nat → Int32} {S0 : SS} (hN : 9 ≤ N) (hk : k = 18 ∨ k = 30) (hK : Kx E N F H G pl S0) (hv : Lv E k S0 m) (hw : wfL E m) (ha : a < E) (kc : Int32 → SS → Option SS)
    (hkc : ∀ S s, Fr [16, 17, 29] S0 S → eC S s → (∀ c, s = some c → c.1 = 0 ∧ c.2 < 10 * (a + 1)) → ∃ S2, kc (nI (a + 1)) S = some S2 ∧ Fr [16, 17, 29] S0 S2 ∧ eC S2 ((cK E (opF m) (X1F G m pl) (E * E - (a + 1) * E) ((a + 1) * E)).foldl bet s)) :
    ∀ (j b n : Nat) (S : SS) (s : Option (Nat × Nat)), Fr [16, 17, 29] S0 S → eC S s → (∀ c, s = some c → c.1 = 0 ∧ c.2 < 10 * a + b) → b + j = E → j < n → ∃ S2, fX0_findTry_l22 N k kc n (nI a) (nI b) S = some S2 ∧ Fr [16, 17, 29] S0 S2 ∧ eC S2 ((cK E (opF m) (X1F G m pl) (E * E - (a * E + b)) (a * E + b)).foldl bet s) := by
  have hE := hK.1
  have k1 : ∀ x, x ∈ ([16, 17, 29] : List Nat) → x < k ∨ k + 4 < x := by
    rcases hk with rfl | rfl <;> decide
  have k2 : ∀ k, k ∈ ([16, 17, 29] : List Nat) → k ≠ 3 ∧ k ≠ 5 ∧ k ≠ 14 ∧ (k < 48 ∨ 52 ≤ k) := by decide
  intro j
  induction j with
  | zero =>
    intro b n S s fS he hs hi hn
    obtain ⟨n, rfl⟩ : ∃ q, n = q + 1 := ⟨n - 1, by omega⟩
    have : b = E := by omega
    subst this
    unfold fX0_findTry_l22
    rw [(hv.f fS k1).1, if_pos (nI_le (by omega) (by omega)), lt_s9, nI_1, ← Nat.succ_mul]
    exact hkc S s fS he (fun c hc => by have := hs c hc; omega)
  | succ j ih =>
    intro b n S s fS he hs hi hn
    obtain ⟨n, rfl⟩ : ∃ q, n = q + 1 := ⟨n - 1, by omega⟩
    have hb : b < E := by omega
    have hvS := hv.f fS k1
    unfold fX0_findTry_l22
    rw [hvS.1, if_neg (nI_ge (by omega) (by omega)), bd_s (c_open hN hE hvS hw ha hb), lt_s9, nI_1, cK_at hE ha hb]
    cases ho : opF m a b
    · rw [ifi0]
      exact ih (b + 1) n S s fS he (fun c hc => by have := hs c hc; omega) (by omega) (by omega)
    · rw [ifi1, if_pos rfl, k_ab a (by omega) b (by omega)]
      have key : ∀ S7 : SS, Fr [16, 17, 29] S0 S7 → eC S7 (bet s (0, 10 * a + b)) → ∃ S2, fX0_findTry_j60 N k kc (fX0_findTry_l22 N k kc n) (nI a) (nI b) S7 = some S2 ∧ Fr [16, 17, 29] S0 S2 ∧ eC S2 ((X1F G m pl a b :: cK E (opF m) (X1F G m pl) (E * E - (a * E + (b + 1))) (a * E + (b + 1))).foldl bet s) := fun S7 f7 h7 => by
        have hv7 := hv.f f7 k1
        obtain ⟨S5, z1, z2⟩ := c_goes (hK.f f7 k2) hv7 ha hb (nI (tw m a).length)
        unfold fX0_findTry_j60
        rw [bd_s (c_size hN hE hv7 hw ha), b2_s z1]
        have f5 : Fr [16, 17, 29] S0 S5 := f7.tr (z2.mono (by decide))
        have h5 : eC S5 (bet s (0, 10 * a + b)) := eC_c (z2.row (by decide)) h7
        rw [List.foldl_cons]
        cases hg : gwF G m pl a b (nI (tw m a).length)
        · rw [ifi0, lt_s9, nI_1]
          have e : X1F G m pl a b = (0, 10 * a + b) := by
            unfold X1F
            rw [hg]
            rfl
          rw [e]
          refine ih (b + 1) n S5 _ f5 h5 (fun c hc => ?_) (by omega) (by omega)
          cases s with
          | none =>
            cases hc
            exact ⟨rfl, by show 10 * a + b < 10 * a + (b + 1); omega⟩
          | some s =>
            have := hs s rfl
            simp only [bet] at hc
            rw [if_neg (by omega)] at hc
            cases hc
            omega
        · rw [ifi1, lt_s9, lt_s9, k_ab a (by omega) b (by omega)]
          have e : X1F G m pl a b = (1, 10 * a + b) := by
            unfold X1F
            rw [hg]
            rfl
          have e2 : bet s (1, 10 * a + b) = some (1, 10 * a + b) := by
            cases s with
            | none => rfl
            | some s =>
              have := hs s rfl
              simp only [bet]
              rw [if_pos (by omega)]
          rw [e, e2, bet_stay _ (fun c hc => ?_)]
          · exact ⟨_, rfl, (f5.tr (Fr.pj (by decide))).tr (Fr.pj (by decide)), by rw [gi_pj, gi_pj]; rfl, by rw [gi_pj]; rfl⟩
          · obtain ⟨i, h1, h2, rfl⟩ := cK_mem _ _ _ hc
            have h3 := kro (i := a * E + b) (k := i) hE (by omega) (by omega)
            obtain ⟨_, q2, q3, _⟩ := kst hE ha hb
            rw [q2, q3] at h3
            have h4 := tn1 (gwF G m pl (i / E) (i % E) (nI (tw m (i / E)).length))
            unfold X1F
            dsimp only
            omega
      cases s with
      | none =>
        rw [if_pos he.2, lt_s9]
        exact key _ (fS.tr (Fr.pj (by decide))) ⟨by rw [gi_pj]; exact he.1, by rw [gi_pj]; rfl⟩
      | some s =>
        have := hs s rfl
        rw [he.2, if_neg (nI_m1 (by omega))]
        refine key S fS ?_
        simp only [bet]
        rw [if_neg (by omega)]
        exact he
theorem c_ft_o {E N F H k : Nat} {G : Int32 → Int32 → Int32 → Int32 → Int32 → Bool} {pl m : Nat → Int32} {S0 : SS} (hN : 9 ≤ N) (hk : k = 18 ∨ k = 30) (hK : Kx E N F H G pl S0) (hv : Lv E k S0 m) (hw : wfL E m) : ∀ (j a n : Nat) (S : SS) (s : Option (Nat × Nat)), Fr [16, 17, 29] S0 S → eC S s → (∀ c, s = some c → c.1 = 0 ∧ c.2 < 10 * a) → a + j = E → j < n → ∃ S2, fX0_findTry_l12 N k n (nI a) S = some S2 ∧ Fr [16, 17, 29] S0 S2 ∧ eC S2 ((cK E (opF m) (X1F G m pl) (E * E - a * E) (a * E)).foldl bet s) := by
  have hE := hK.1
  have k1 : ∀ x, x ∈ ([16, 17, 29] : List Nat) → x < k ∨ k + 4 < x := by
    rcases hk with rfl | rfl <;> decide
  intro j
  induction j with
  | zero =>
    intro a n S s fS he hs hi hn
    obtain ⟨n, rfl⟩ : ∃ q, n = q + 1 := ⟨n - 1, by omega⟩
    have : a = E := by omega
    subst this
    unfold fX0_findTry_l12
    rw [(hv.f fS k1).1, if_pos (nI_le (by omega) (by omega)), Nat.sub_self]
    exact ⟨S, rfl, fS, he⟩
  | succ j ih =>
    intro a n S s fS he hs hi hn
    obtain ⟨n, rfl⟩ : ∃ q, n = q + 1 := ⟨n - 1, by omega⟩
    have ha : a < E := by omega
    unfold fX0_findTry_l12
    rw [(hv.f fS k1).1, if_neg (nI_ge (by omega) (by omega))]
    exact c_ft_i hN hk hK hv hw ha (fX0_findTry_l12 N k n) (fun S' s' f' e' q' => ih (a + 1) n S' s' f' e' q' (by omega) (by omega)) E 0 N S s fS he (fun c hc => hs c hc) (by omega) (by omega)
theorem c_ft {E N F H k : Nat} {G : Int32 → Int32 → Int32 → Int32 → Int32 → Bool} {pl m : Nat → Int32} {S : SS} (hN : 9 ≤ N) (hk : k = 18 ∨ k = 30) (hK : Kx E N F H G pl S) (hv : Lv E k S m) (hw : wfL E m) : ∃ S2, fX0_findTry N S k = some S2 ∧ Fr [16, 17, 29] S S2 ∧ eC S2 ((lsF E G m pl).foldl bet none) := by
  have hE := hK.1
  have k1 : ∀ x, x ∈ ([16, 17, 29] : List Nat) → x < k ∨ k + 4 < x := by
    rcases hk with rfl | rfl <;> decide
  unfold fX0_findTry
  rw [lt_s9, lt_s9]
  have f1 : Fr [16, 17, 29] S (pj (pj S 29 10 0) 29 11 (-1)) := (Fr.pj (by decide)).tr (Fr.pj (by decide))
  obtain ⟨S2, z1, z2, z3⟩ := c_ft_o hN hk (hK.f f1 (by decide)) (hv.f f1 k1) hw E 0 N (pj (pj S 29 10 0) 29 11 (-1)) none Fr.rf ⟨by rw [gi_pj, gi_pj]; rfl, by rw [gi_pj]; rfl⟩ (fun c hc => nomatch hc) (by omega) (by omega)
  rw [Nat.zero_mul, Nat.sub_zero] at z3
  exact ⟨S2, z1, f1.tr z2, z3⟩
theorem c_next {E N F H : Nat} {G : Int32 → Int32 → Int32 → Int32 → Int32 → Bool} {pl m : Nat → Int32} {S : SS} (hN : 9 ≤ N) (hK : Kx E N F H G pl S) (hv : Lv E 18 S m) (hw : wfL E m) {a b : Nat} (ha : a < E) (hb : b < E) (ho : opF m a b = true) : ∃ S2, fX0_tryAndFindNext N S (nI a) (nI b) = some S2 ∧ Fr [16, 17, 29, 30, 31, 32, 33, 34] S S2 ∧ eC S2 (some (X2F E F G m pl a b)) := by
  have hE := hK.1
  obtain ⟨S1, z1, z2, z3⟩ := c_copy (N := N) hE hv
  have hK1 := hK.f z2 (by decide)
  obtain ⟨S3, y1, y2, y3⟩ := c_try hN (by omega) (by omega) hK1 z3 hw ha hb ho
  have hK3 := hK1.f y2 (by decide)
  obtain ⟨S4, x1, x2, x3⟩ := c_ft hN (Or.inr rfl) hK3 y3 (wf_try hE hw ha hb ho).1
  unfold fX0_tryAndFindNext
  rw [bd_s z1, b2_s y1]
  have hj : ∀ y0, fX0_tryAndFindNext_j32 N (nI a) (nI b) y0 S3 = (if (gi (pj S4 29 10 (gi S4 29 10 + y0)) 29 11) = -1 then some (pj (pj S4 29 10 (gi S4 29 10 + y0)) 29 11 (nI (10 * a + b))) else some (pj (pj S4 29 10 (gi S4 29 10 + y0)) 29 11 (nI (10 * a + b) * 100 + gi (pj S4 29 10 (gi S4 29 10 + y0)) 29 11))) := fun y0 => by
    unfold fX0_tryAndFindNext_j32
    rw [lt_s9, bd_s x1, lt_s9, k_ab a (by omega) b (by omega)]
    rfl
  have hj2 : (if i01 (gwF G m pl a b (nI (tw m a).length)) = 0 then fX0_tryAndFindNext_j32 N (nI a) (nI b) 0 S3 else fX0_tryAndFindNext_j32 N (nI a) (nI b) 1 S3) = fX0_tryAndFindNext_j32 N (nI a) (nI b) (i01 (gwF G m pl a b (nI (tw m a).length))) S3 := by
    cases gwF G m pl a b (nI (tw m a).length) <;> rfl
  rw [hj2, hj]
  have fr : Fr [16, 17, 29, 30, 31, 32, 33, 34] S S4 := ((z2.mono (by decide)).tr (y2.mono (by decide))).tr (x2.mono (by decide))
  have e11 : ∀ v, gi (pj S4 29 10 v) 29 11 = gi S4 29 11 := fun v => by
    rw [gi_pj]
    rfl
  rw [e11]
  unfold X2F
  revert x3
  cases hq : (lsF E G (tryF (gwF G m pl a b (nI (tw m a).length)) F m a b) pl).foldl bet none with
  | none =>
    intro x3
    rw [if_pos x3.2]
    refine ⟨_, rfl, (fr.tr (Fr.pj (by decide))).tr (Fr.pj (by decide)), ?_, by rw [gi_pj]; rfl⟩
    rw [gi_pj, gi_pj, x3.1]
    show 0 + i01 _ = nI (Bool.toNat _)
    rw [nI_i01]
    cases gwF G m pl a b (nI (tw m a).length) <;> rfl
  | some c =>
    intro x3
    have h5 := ls_bd hE hq
    rw [if_neg (by rw [x3.2]; exact nI_m1 (by omega))]
    refine ⟨_, rfl, (fr.tr (Fr.pj (by decide))).tr (Fr.pj (by decide)), ?_, ?_⟩
    · rw [gi_pj, gi_pj, x3.1]
      show nI c.1 + i01 _ = nI (Bool.toNat _ + c.1)
      rw [← nI_i01, nI_add, Nat.add_comm]
    · rw [gi_pj, x3.2]
      show nI (10 * a + b) * nI 100 + nI c.2 = nI (100 * (10 * a + b) + c.2)
      rw [pk_mul, nI_add, Nat.mul_comm]
def x1O : Option (Nat × Nat) → Int32
  | none => 0
  | some c => nI c.1
def x2O : Option (Nat × Nat) → Int32
  | none => -1
  | some c => nI c.2
theorem k_2le : ∀ v, v ≤ 2 → ((2 : Int32) ≤ nI v ↔ v = 2) := by decide +kernel
theorem c_two_stay {E F a b : Nat} {G : Int32 → Int32 → Int32 → Int32 → Int32 → Bool} {m pl : Nat → Int32} (hE : E ≤ 7) (ha : a < E ∨ b = 0) (hb : b ≤ E) {c : Nat × Nat} (h1 : c.1 = 2) (h2 : c.2 < 100 * (10 * a + b)) : (cK E (opF m) (X2F E F G m pl) (E * E - (a * E + b)) (a * E + b)).foldl bet (some c) = some c := by
  refine bet_stay _ (fun d hd => ?_)
  obtain ⟨i, q1, q2, rfl⟩ := cK_mem _ _ _ hd
  have q3 := X2_bd (F := F) (G := G) (m := m) (pl := pl) (a := i / E) (b := i % E) hE
  have h0 : 0 < E := by
    rcases Nat.eq_zero_or_pos E with rfl | q
    · omega
    · exact q
  have q4 : 10 * a + b ≤ 10 * (i / E) + i % E := by
    rcases Nat.lt_or_ge b E with hb2 | hb2
    · have q5 : (a * E + b) / E = a ∧ (a * E + b) % E = b := by
        rw [Nat.mul_comm a E, Nat.mul_add_div h0, Nat.mul_add_mod, Nat.div_eq_of_lt hb2, Nat.mod_eq_of_lt hb2]
        exact ⟨rfl, rfl⟩
      rcases Nat.lt_or_eq_of_le q1 with q6 | q6
      · have := kro hE h0 q6
        rw [q5.1, q5.2] at this
        omega
      · rw [← q6, q5.1, q5.2]
        omega
    · have : b = E := by omega
      subst this
      have q7 : (a + 1) * b ≤ i := by
        rw [Nat.succ_mul]
        exact q1
      have q8 : a + 1 ≤ i / b := (Nat.le_div_iff_mul_le h0).mpr q7
      omega
  omega
theorem c_two_i {E N F H a : Nat} {G : Int32 → Int32 → Int32 → Int32 → Int32 → Bool} {pl m : Nat → Int32} {S0 : SS} (hN : 9 ≤ N) (hK : Kx E N F H G pl S0) (hv : Lv E 18 S0 m) (hw : wfL E m) (ha : a < E) (kc : Int32 → Int32 → Int32 → SS → Option SS)
    (hkc : ∀ S s, Fr [16, 17, 29, 30, 31, 32, 33, 34] S0 S → (∀ c, s = some c → c.1 ≤ 2 ∧ c.2 < 100 * (10 * (a + 1))) → ∃ S2, kc (x1O s) (x2O s) (nI (a + 1)) S = some S2 ∧ Fr [16, 17, 29, 30, 31, 32, 33, 34] S0 S2 ∧ eC S2 ((cK E (opF m) (X2F E F G m pl) (E * E - (a + 1) * E) ((a + 1) * E)).foldl bet s)) :
    ∀ (j b n : Nat) (S : SS) (s : Option (Nat × Nat)), Fr [16, 17, 29, 30, 31, 32, 33, 34] S0 S → (∀ c, s = some c → c.1 ≤ 2 ∧ c.2 < 100 * (10 * a + b)) → b + j = E → j < n → ∃ S2, fX0_findTwoTries_l25 N kc n (x1O s) (x2O s) (nI a) (nI b) S = some S2 ∧ Fr [16, 17, 29, 30, 31, 32, 33, 34] S0 S2 ∧ eC S2 ((cK E (opF m) (X2F E F G m pl) (E * E - (a * E + b)) (a * E + b)).foldl bet s) := by
  have hE := hK.1
  have k1 : ∀ x, x ∈ ([16, 17, 29, 30, 31, 32, 33, 34] : List Nat) → x < 18 ∨ 18 + 4 < x := by decide
  intro j
  induction j with
  | zero =>
    intro b n S s fS hs hi hn
    obtain ⟨n, rfl⟩ : ∃ q, n = q + 1 := ⟨n - 1, by omega⟩
    have : b = E := by omega
    subst this
    unfold fX0_findTwoTries_l25
    rw [(hv.f fS k1).1, if_pos (nI_le (by omega) (by omega)), lt_s9, nI_1, ← Nat.succ_mul]
    exact hkc S s fS (fun c hc => by have := hs c hc; omega)
  | succ j ih =>
    intro b n S s fS hs hi hn
    obtain ⟨n, rfl⟩ : ∃ q, n = q + 1 := ⟨n - 1, by omega⟩
    have hb : b < E := by omega
    have hvS := hv.f fS k1
    unfold fX0_findTwoTries_l25
    rw [hvS.1, if_neg (nI_ge (by omega) (by omega)), lt_s9, nI_1]
    by_cases h2 : ∃ c, s = some c ∧ c.1 = 2
    · obtain ⟨c, rfl, hc⟩ := h2
      rw [if_pos (show (2 : Int32) ≤ x1O (some c) from (k_2le c.1 (by omega)).mpr hc)]
      have q := hs c rfl
      obtain ⟨S2, z1, z2, z3⟩ := hkc S (some c) fS (fun d hd => by cases hd; omega)
      have e1 := c_two_stay (E := E) (F := F) (a := a + 1) (b := 0) (G := G) (m := m) (pl := pl) hE (Or.inr rfl) (by omega) hc (by omega)
      rw [Nat.add_zero] at e1
      rw [e1] at z3
      refine ⟨S2, z1, z2, ?_⟩
      rw [c_two_stay hE (Or.inl ha) (by omega) hc q.2]
      exact z3
    · have h3 : ¬ (2 : Int32) ≤ x1O s := by
        cases s with
        | none => decide
        | some c =>
          intro z
          have q := hs c rfl
          exact h2 ⟨c, rfl, (k_2le c.1 (by omega)).mp z⟩
      rw [if_neg h3, bd_s (c_open hN hE hvS hw ha hb), lt_s9, nI_1, cK_at hE ha hb]
      cases ho : opF m a b
      · rw [ifi0]
        exact ih (b + 1) n S s fS (fun c hc => by have := hs c hc; omega) (by omega) (by omega)
      · rw [ifi1, if_pos rfl, List.foldl_cons]
        obtain ⟨S1, z1, z2, z3⟩ := c_next hN (hK.f fS (by decide)) hvS hw ha hb ho
        rw [bd_s z1]
        simp only [lt_s9, nI_1]
        have bd := X2_bd (F := F) (G := G) (m := m) (pl := pl) (a := a) (b := b) hE
        have f1 := fS.tr z2
        generalize X2F E F G m pl a b = X at *
        rw [z3.1, z3.2]
        have hgo := fun s' (hs' : ∀ c, s' = some c → c.1 ≤ 2 ∧ c.2 < 100 * (10 * a + (b + 1))) => ih (b + 1) n S1 s' f1 hs' (by omega) (by omega)
        have hX : ∀ c, some X = some c → c.1 ≤ 2 ∧ c.2 < 100 * (10 * a + (b + 1)) := fun c hc => by
          cases hc
          omega
        cases s with
        | none =>
          rw [if_pos (show x2O none = -1 from rfl)]
          exact hgo (some X) hX
        | some c =>
          have q := hs c rfl
          have hC : ∀ d, some c = some d → d.1 ≤ 2 ∧ d.2 < 100 * (10 * a + (b + 1)) := fun d hd => by
            cases hd
            omega
          show ∃ S2, (if nI c.2 = -1 then _ else _) = some S2 ∧ _
          rw [if_neg (nI_m1 (by omega))]
          show ∃ S2, (if nI c.1 < nI X.1 then _ else _) = some S2 ∧ _
          simp only [bet]
          by_cases c1 : c.1 < X.1
          · rw [if_pos (nI_lt c1 (by omega)), if_pos (Or.inl c1)]
            exact hgo (some X) hX
          · rw [if_neg (nI_nlt (by omega) (by omega))]
            show ∃ S2, (if nI X.1 = nI c.1 then _ else _) = some S2 ∧ _
            by_cases c2 : X.1 = c.1
            · rw [if_pos (by rw [c2])]
              show ∃ S2, (if nI c.2 ≤ nI X.2 then _ else _) = some S2 ∧ _
              by_cases c3 : c.2 ≤ X.2
              · rw [if_pos (nI_le c3 (by omega)), if_neg (by omega)]
                exact hgo (some c) hC
              · rw [if_neg (nI_ge (by omega) (by omega)), if_pos (by omega)]
                exact hgo (some X) hX
            · rw [if_neg (fun z => c2 ((nI_eq (by omega) (by omega)).mp z)), if_neg (by omega)]
              exact hgo (some c) hC
theorem c_two_o {E N F H : Nat} {G : Int32 → Int32 → Int32 → Int32 → Int32 → Bool} {pl m : Nat → Int32} {S0 : SS} (hN : 9 ≤ N) (hK : Kx E N F H G pl S0) (hv : Lv E 18 S0 m) (hw : wfL E m) : ∀ (j a n : Nat) (S : SS) (s : Option (Nat × Nat)), Fr [16, 17, 29, 30, 31, 32, 33, 34] S0 S → (∀ c, s = some c → c.1 ≤ 2 ∧ c.2 < 100 * (10 * a)) → a + j = E → j < n → ∃ S2, fX0_findTwoTries_l6 N n (x1O s) (x2O s) (nI a) S = some S2 ∧ Fr [16, 17, 29, 30, 31, 32, 33, 34] S0 S2 ∧ eC S2 ((cK E (opF m) (X2F E F G m pl) (E * E - a * E) (a * E)).foldl bet s) := by
  have hE := hK.1
  have k1 : ∀ x, x ∈ ([16, 17, 29, 30, 31, 32, 33, 34] : List Nat) → x < 18 ∨ 18 + 4 < x := by decide
  have hend : ∀ (S : SS) (s : Option (Nat × Nat)), Fr [16, 17, 29, 30, 31, 32, 33, 34] S0 S → Fr [16, 17, 29, 30, 31, 32, 33, 34] S0 (pj (pj S 29 10 (x1O s)) 29 11 (x2O s)) ∧ eC (pj (pj S 29 10 (x1O s)) 29 11 (x2O s)) s := fun S s fS => by
    refine ⟨(fS.tr (Fr.pj (by decide))).tr (Fr.pj (by decide)), ?_⟩
    cases s with
    | none => exact ⟨by rw [gi_pj, gi_pj]; rfl, by rw [gi_pj]; rfl⟩
    | some c => exact ⟨by rw [gi_pj, gi_pj]; rfl, by rw [gi_pj]; rfl⟩
  intro j
  induction j with
  | zero =>
    intro a n S s fS hs hi hn
    obtain ⟨n, rfl⟩ : ∃ q, n = q + 1 := ⟨n - 1, by omega⟩
    have : a = E := by omega
    subst this
    unfold fX0_findTwoTries_l6
    rw [(hv.f fS k1).1, if_pos (nI_le (by omega) (by omega)), Nat.sub_self, lt_s9, lt_s9]
    exact ⟨_, rfl, (hend S s fS).1, (hend S s fS).2⟩
  | succ j ih =>
    intro a n S s fS hs hi hn
    obtain ⟨n, rfl⟩ : ∃ q, n = q + 1 := ⟨n - 1, by omega⟩
    have ha : a < E := by omega
    unfold fX0_findTwoTries_l6
    rw [(hv.f fS k1).1, if_neg (nI_ge (by omega) (by omega))]
    by_cases h2 : ∃ c, s = some c ∧ c.1 = 2
    · obtain ⟨c, rfl, hc⟩ := h2
      have q := hs c rfl
      rw [if_pos (show (2 : Int32) ≤ x1O (some c) from (k_2le c.1 (by omega)).mpr hc), lt_s9, lt_s9]
      have e1 := c_two_stay (E := E) (F := F) (a := a) (b := 0) (G := G) (m := m) (pl := pl) hE (Or.inr rfl) (by omega) hc (by omega)
      rw [Nat.add_zero] at e1
      rw [e1]
      exact ⟨_, rfl, (hend S _ fS).1, (hend S _ fS).2⟩
    · have h3 : ¬ (2 : Int32) ≤ x1O s := by
        cases s with
        | none => decide
        | some c =>
          intro z
          have q := hs c rfl
          exact h2 ⟨c, rfl, (k_2le c.1 (by omega)).mp z⟩
      rw [if_neg h3]
      exact c_two_i hN hK hv hw ha (fX0_findTwoTries_l6 N n) (fun S' s' f' q' => ih (a + 1) n S' s' f' q' (by omega) (by omega)) E 0 N S s fS (fun c hc => hs c hc) (by omega) (by omega)
theorem c_two {E N F H : Nat} {G : Int32 → Int32 → Int32 → Int32 → Int32 → Bool} {pl m : Nat → Int32} {S : SS} (hN : 9 ≤ N) (hK : Kx E N F H G pl S) (hv : Lv E 18 S m) (hw : wfL E m) : ∃ S2, fX0_findTwoTries N S = some S2 ∧ Fr [16, 17, 29, 30, 31, 32, 33, 34] S S2 ∧ eC S2 ((cK E (opF m) (X2F E F G m pl) (E * E) 0).foldl bet none) := by
  have hE := hK.1
  obtain ⟨S2, z1, z2, z3⟩ := c_two_o (F := F) hN hK hv hw E 0 N S none Fr.rf (fun c hc => nomatch hc) (by omega) (by omega)
  rw [Nat.zero_mul, Nat.sub_zero] at z3
  exact ⟨S2, z1, z2, z3⟩
