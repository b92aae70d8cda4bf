/-! seen, plies, ask -/
theorem ab_sub {a b : Nat} (ha : a < 2 ^ 30) (hb : b < 2 ^ 30) : ab (nI a - nI b) = nI (if a ≤ b then b - a else a - b) := by
  unfold ab
  by_cases h : b ≤ a
  · rw [pk_sub h, if_pos (nI_pos' (by omega))]
    by_cases h2 : a ≤ b
    · rw [if_pos h2, show a - b = b - a by omega]
    · rw [if_neg h2]
  · have hn := pk_sneg (a := a) hb (by omega)
    have h3 : ¬ 0 ≤ nI a - nI b := fun z => by
      have z1 := Int32.lt_iff_toInt_lt.mp hn
      have z2 := Int32.le_iff_toInt_le.mp z
      omega
    rw [if_neg h3, if_pos (by omega), Int32.zero_sub, Int32.neg_sub, pk_sub (by omega)]
theorem ab_comm {a b : Nat} (ha : a < 2 ^ 30) (hb : b < 2 ^ 30) : ab (nI a - nI b) = ab (nI b - nI a) := by
  rw [ab_sub ha hb, ab_sub hb ha]
  congr 1
  by_cases h : a ≤ b <;> by_cases h2 : b ≤ a <;> simp [h, h2] <;> omega
/-- goes as told: d with that ply, and o -/
def tlF (G : Int32 → Int32 → Int32 → Int32 → Int32 → Bool) (S : SS) (d : Nat) (p : Int32) (o : Nat) : Bool := G (ab (S.1 4 d - S.1 4 o)) (ab (p - S.1 5 o)) (S.1 6 d + S.1 6 o) 1 0
theorem c_told {E N F H : Nat} {G : Int32 → Int32 → Int32 → Int32 → Int32 → Bool} {pl : Nat → Int32} {S0 S : SS} (hk : Kx E N F H G pl S0) (hf : Fr [16, 17] S0 S) {d o : Nat} (hd : d < E) (ho : o < E) (p : Int32) : ∃ S2, fX7_goesAs N S (nI d) p (nI o) = some (S2, i01 (tlF G S0 d p o)) ∧ Fr [16, 17] S0 S2 := by
  have hE := hk.1
  have hk2 := hk.f hf kx1617
  obtain ⟨S2, z1, z2⟩ := hk2.2.2.2.2.2.2.2 S Sm.rf rfl (ab (S.1 4 d - S.1 4 o)) (ab (p - S.1 5 o)) (S.1 6 d + S.1 6 o) 1 0
  refine ⟨S2, ?_, hf.tr z2⟩
  unfold fX7_goesAs tlF
  simp (disch := omega) only [ck_in, ga_nI, lt_s9]
  rw [b2_s z1, hf.row (k := 4) (by decide), hf.row (k := 5) (by decide), hf.row (k := 6) (by decide)]
theorem m_told {E N F H : Nat} {G : Int32 → Int32 → Int32 → Int32 → Int32 → Bool} {pl : Nat → Int32} {T0 T : SS} (hk : Mx E N F H G pl T0) (hf : Fr [61, 62] T0 T) {d o : Nat} (hd : d < E) (ho : o < E) (p q : Int32) : ∃ T2, fX12_goesTold N T (nI d) (nI o) p q = some (T2, i01 (G (ab (T0.1 66 (3 * d) - T0.1 66 (3 * o))) (ab (p - q)) (T0.1 66 (3 * d + 2) + T0.1 66 (3 * o + 2)) 1 0)) ∧ Fr [61, 62] T0 T2 := by
  have hE := hk.1
  have hk2 := hk.f hf mx6162
  have e66 := hf.row (k := 66) (by decide)
  obtain ⟨T2, z1, z2⟩ := hk2.2.2.2.2.2.2.2 T Sm.rf (ab (T0.1 66 (3 * d) - T0.1 66 (3 * o))) (ab (p - q)) (T0.1 66 (3 * d + 2) + T0.1 66 (3 * o + 2)) 1 0
  refine ⟨T2, ?_, hf.tr z2⟩
  have e1 : fX12_of N T (nI d) 0 = some (T0.1 66 (3 * d)) := by
    rw [show (0 : Int32) = nI 0 from rfl, m_of (by omega) 0 (by omega), e66]
    rfl
  have e2 : fX12_of N T (nI o) 0 = some (T0.1 66 (3 * o)) := by
    rw [show (0 : Int32) = nI 0 from rfl, m_of (by omega) 0 (by omega), e66]
    rfl
  have e3 : fX12_of N T (nI d) 2 = some (T0.1 66 (3 * d + 2)) := by
    rw [show (2 : Int32) = nI 2 from rfl, m_of (by omega) 2 (by omega), e66]
  have e4 : fX12_of N T (nI o) 2 = some (T0.1 66 (3 * o + 2)) := by
    rw [show (2 : Int32) = nI 2 from rfl, m_of (by omega) 2 (by omega), e66]
  unfold fX12_goesTold
  rw [bd_s e1, bd_s e2, bd_s e3, bd_s e4, b2_s z1]
/-- the two readings of told agree, whoever is named first -/
theorem told_12 {E : Nat} {S T : SS} (hm : rMill E S T) (hp : 0 < E) {G : Int32 → Int32 → Int32 → Int32 → Int32 → Bool} {d o : Nat} (hd : d < E) (ho : o < E) {p : Nat} (h6 : p < 100) :
    G (ab (T.1 66 (3 * d) - T.1 66 (3 * o))) (ab (nI p - T.1 66 (3 * o + 1))) (T.1 66 (3 * d + 2) + T.1 66 (3 * o + 2)) 1 0 = tlF G S d (nI p) o ∧
    G (ab (T.1 66 (3 * o) - T.1 66 (3 * d))) (ab (T.1 66 (3 * o + 1) - nI p)) (T.1 66 (3 * o + 2) + T.1 66 (3 * d + 2)) 1 0 = tlF G S d (nI p) o := by
  obtain ⟨⟨v1, b1, x1, y1⟩, ⟨v2, _, b2, x2, y2⟩, ⟨v3, _, b3, x3, y3⟩⟩ := (hm.2.2.2 hp).2.2.2 d hd
  obtain ⟨⟨w1, c1, u1, t1⟩, ⟨w2, _, c2, u2, t2⟩, ⟨w3, _, c3, u3, t3⟩⟩ := (hm.2.2.2 hp).2.2.2 o ho
  unfold tlF
  rw [x1, x3, u1, u2, u3, y1, y3, t1, t2, t3]
  refine ⟨rfl, ?_⟩
  rw [ab_comm (a := w1) (b := v1) (by omega) (by omega), ab_comm (a := w2) (b := p) (by omega) (by omega), Int32.add_comm (nI w3)]
def allF (Q : Nat → Bool) : Nat → Nat → Bool
  | 0, _ => true
  | j + 1, i => Q i && allF Q j (i + 1)
/-- the i-th of what was seen is so, d having ply p -/
def seF (G : Int32 → Int32 → Int32 → Int32 → Int32 → Bool) (S : SS) (d : Nat) (p : Int32) (i : Nat) : Bool :=
  if S.1 41 i = nI d then decide (i01 (tlF G S d p (S.1 42 i).toNatClampNeg) = S.1 43 i) else if S.1 42 i = nI d then decide (i01 (tlF G S d p (S.1 41 i).toNatClampNeg) = S.1 43 i) else true
theorem plys_l {E N F H n0 : Nat} {G : Int32 → Int32 → Int32 → Int32 → Int32 → Bool} {pl : Nat → Int32} {S0 T0 : SS} (hk : Kx E N F H G pl S0) (hx : Mx E N F H G pl T0) (hm : rMill E S0 T0) (hn0 : n0 ≤ 10) (hs1 : gi S0 40 5 = nI n0) (hs2 : gi T0 52 42 = nI n0) (hs : ∀ j, j < n0 → S0.1 41 j = T0.1 74 j ∧ S0.1 42 j = T0.1 75 j ∧ S0.1 43 j = T0.1 76 j ∧ (S0.1 43 j = 0 ∨ S0.1 43 j = 1) ∧ ∃ x y, x < E ∧ y < E ∧ x ≠ y ∧ S0.1 41 j = nI x ∧ S0.1 42 j = nI y) {d p : Nat} (hd : d < E) (hp : p < 100) :
    ∀ (j i n : Nat) (S T : SS), Fr [16, 17] S0 S → Fr [61, 62] T0 T → i + j = n0 → j < n → ∃ S2 T2, fX7_isAllSo_l2 N n (nI d) (nI p) (nI i) S = some (S2, i01 (allF (seF G S0 d (nI p)) j i)) ∧ fX12_isPly_l2 N n (nI d) (nI p) (nI i) T = some (T2, i01 (allF (seF G S0 d (nI p)) j i)) ∧ Fr [16, 17] S0 S2 ∧ Fr [61, 62] T0 T2 := by
  have hE := hk.1
  intro j
  induction j with
  | zero =>
    intro i n S T fS fT hi hn
    obtain ⟨n, rfl⟩ : ∃ q, n = q + 1 := ⟨n - 1, by omega⟩
    unfold fX7_isAllSo_l2 fX12_isPly_l2
    rw [fS.gi (by decide), fT.gi (by decide), hs1, hs2, if_pos (nI_le (by omega) (by omega)), if_pos (nI_le (by omega) (by omega))]
    exact ⟨S, T, rfl, rfl, fS, fT⟩
  | succ j ih =>
    intro i n S T fS fT hi hn
    obtain ⟨n, rfl⟩ : ∃ q, n = q + 1 := ⟨n - 1, by omega⟩
    obtain ⟨r1, r2, r3, r4, x, y, hx', hy', hxy, q1, q2⟩ := hs i (by omega)
    have s41 := fS.row (k := 41) (by decide)
    have s42 := fS.row (k := 42) (by decide)
    have s43 := fS.row (k := 43) (by decide)
    have t74 := fT.row (k := 74) (by decide)
    have t75 := fT.row (k := 75) (by decide)
    have t76 := fT.row (k := 76) (by decide)
    have t66 := fT.row (k := 66) (by decide)
    unfold fX7_isAllSo_l2 fX12_isPly_l2 fX12_isPly_j25 fX7_isAllSo_j30 fX12_isPly_j42 fX12_isPly_j75
    rw [fS.gi (by decide), fT.gi (by decide), hs1, hs2, if_neg (nI_ge (by omega) (by omega)), if_neg (nI_ge (by omega) (by omega))]
    have hi10 : i < 10 := by omega
    simp (disch := omega) only [ck_in, ga_nI, s41, s42, t74, t75, ← r1, ← r2, q1, q2, n10, if_true, if_false]
    have eo : ∀ z, z < E → fX12_of N T (nI z) 1 = some (T0.1 66 (3 * z + 1)) := fun z hz => by
      rw [show (1 : Int32) = nI 1 from rfl, m_of (by omega) 1 (by omega), t66]
    have hwent : ∀ S2 T2, Fr [16, 17] S0 S2 → Fr [61, 62] T0 T2 → ga S2 43 (nI i) = S0.1 43 i ∧ ga T2 76 (nI i) = S0.1 43 i := fun S2 T2 f1 f2 => by
      rw [ga_nI (by omega), ga_nI (by omega), f1.row (by decide), f2.row (by decide), r3]
      exact ⟨rfl, rfl⟩
    have fin : ∀ (b : Bool) (S2 T2 : SS), Fr [16, 17] S0 S2 → Fr [61, 62] T0 T2 → seF G S0 d (nI p) i = decide (i01 b = S0.1 43 i) → ∃ S3 T3, (ck (inb (nI i) 10) <| if i01 b = ga S2 43 (nI i) then lt (nI i + 1) fun v6 => fX7_isAllSo_l2 N n (nI d) (nI p) v6 S2 else some (S2, 0)) = some (S3, i01 (allF (seF G S0 d (nI p)) (j + 1) i)) ∧ (ck (inb (nI i) 10) <| if i01 b = ga T2 76 (nI i) then lt (nI i + 1) fun v6 => fX12_isPly_l2 N n (nI d) (nI p) v6 T2 else some (T2, 0)) = some (T3, i01 (allF (seF G S0 d (nI p)) (j + 1) i)) ∧ Fr [16, 17] S0 S3 ∧ Fr [61, 62] T0 T3 := fun b S2 T2 f1 f2 hb => by
      have hg := hwent S2 T2 f1 f2
      rw [ck_in hi10 (by omega), ck_in hi10 (by omega), hg.1, hg.2, lt_s9, lt_s9, nI_1]
      unfold allF
      rw [hb]
      by_cases hc : i01 b = S0.1 43 i
      · rw [if_pos hc, if_pos hc, decide_eq_true hc, Bool.true_and]
        exact ih (i + 1) n S2 T2 f1 f2 (by omega) (by omega)
      · rw [if_neg hc, if_neg hc, decide_eq_false hc, Bool.false_and]
        exact ⟨S2, T2, rfl, rfl, f1, f2⟩
    by_cases h1 : nI x = nI d
    · have h1' : x = d := (nI_eq (by omega) (by omega)).mp h1
      subst h1'
      simp only [if_true]
      unfold fX7_isAllSo_j55 fX12_isPly_j95
      rw [bd_s (eo y hy')]
      obtain ⟨S2, z1, z2⟩ := c_told hk fS hx' hy' (nI p)
      obtain ⟨T2, y1, y2⟩ := m_told hx fT hx' hy' (nI p) (T0.1 66 (3 * y + 1))
      rw [(told_12 (G := G) hm (by omega) hx' hy' (p := p) hp).1] at y1
      rw [b2_s z1, b2_s y1]
      refine fin (tlF G S0 x (nI p) y) S2 T2 z2 y2 ?_
      unfold seF
      rw [if_pos q1, q2, nI_clamp (by omega)]
    · rw [if_neg h1, if_neg h1]
      by_cases h2 : nI y = nI d
      · have h2' : y = d := (nI_eq (by omega) (by omega)).mp h2
        subst h2'
        rw [if_pos rfl, if_pos rfl, if_neg h1]
        unfold fX7_isAllSo_j55 fX12_isPly_j95
        rw [bd_s (eo x hx')]
        obtain ⟨S2, z1, z2⟩ := c_told hk fS hy' hx' (nI p)
        obtain ⟨T2, y1, y2⟩ := m_told hx fT hx' hy' (T0.1 66 (3 * x + 1)) (nI p)
        rw [(told_12 (G := G) hm (by omega) hy' hx' (p := p) hp).2] at y1
        rw [b2_s z1, b2_s y1]
        refine fin (tlF G S0 y (nI p) x) S2 T2 z2 y2 ?_
        unfold seF
        rw [if_neg (by rw [q1]; exact h1), if_pos q2, q1, nI_clamp (by omega)]
      · rw [if_neg h2, if_neg h2, if_neg h1, lt_s9, lt_s9, nI_1]
        have : seF G S0 d (nI p) i = true := by
          unfold seF
          rw [if_neg (by rw [q1]; exact h1), if_neg (by rw [q2]; exact h2)]
        unfold allF
        rw [this, Bool.true_and]
        exact ih (i + 1) n S T fS fT (by omega) (by omega)
/-- the plies that fit, as a predicate -/
def plF (G : Int32 → Int32 → Int32 → Int32 → Int32 → Bool) (S : SS) (n0 d : Nat) (p : Nat) : Bool := decide (1 ≤ p) && allF (seF G S d (nI p)) n0 0
/-- what plies and ask stand on -/
def Sx (E N F H n0 : Nat) (G : Int32 → Int32 → Int32 → Int32 → Int32 → Bool) (pl : Nat → Int32) (S0 T0 : SS) : Prop :=
  Kx E N F H G pl S0 ∧ Mx E N F H G pl T0 ∧ rMill E S0 T0 ∧ n0 ≤ 10 ∧ gi S0 40 5 = nI n0 ∧ gi T0 52 42 = nI n0 ∧ (∀ j, j < n0 → S0.1 41 j = T0.1 74 j ∧ S0.1 42 j = T0.1 75 j ∧ S0.1 43 j = T0.1 76 j ∧ (S0.1 43 j = 0 ∨ S0.1 43 j = 1) ∧ ∃ x y, x < E ∧ y < E ∧ x ≠ y ∧ S0.1 41 j = nI x ∧ S0.1 42 j = nI y)
theorem plys {E N F H n0 : Nat} {G : Int32 → Int32 → Int32 → Int32 → Int32 → Bool} {pl : Nat → Int32} {S0 T0 S T : SS} (hN : 20 ≤ N) (hx : Sx E N F H n0 G pl S0 T0) (fS : Fr [16, 17] S0 S) (fT : Fr [61, 62] T0 T) {d p : Nat} (hd : d < E) (hp : 1 ≤ p) (hp2 : p < 100) : ∃ S2 T2, fX7_isAllSo N S (nI d) (nI p) = some (S2, i01 (plF G S0 n0 d p)) ∧ fX12_isPly N T (nI d) (nI p) = some (T2, i01 (plF G S0 n0 d p)) ∧ Fr [16, 17] S0 S2 ∧ Fr [61, 62] T0 T2 := by
  obtain ⟨h1, h2, h3, h4, h5, h6, h7⟩ := hx
  have := plys_l h1 h2 h3 h4 h5 h6 h7 hd hp2 n0 0 N S T fS fT (by omega) (by omega)
  unfold plF
  rw [decide_eq_true hp, Bool.true_and]
  exact this
theorem c_fit_l {E N F H n0 d : Nat} {G : Int32 → Int32 → Int32 → Int32 → Int32 → Bool} {pl : Nat → Int32} {S0 T0 : SS} (hN : 20 ≤ N) (hx : Sx E N F H n0 G pl S0 T0) (hd : d < E) : ∀ (j i n : Nat) (S : SS), Fr [16, 17] S0 S → i + j = 7 → 1 ≤ i → j < n → ∃ S2, fX7_fittingPlies_l4 N n (nI d) (nI (bF (plF G S0 n0 d) i)) (nI i) S = some (S2, nI (bF (plF G S0 n0 d) 7)) ∧ Fr [16, 17] S0 S2 := by
  intro j
  induction j with
  | zero =>
    intro i n S fS hi _ hn
    obtain ⟨n, rfl⟩ : ∃ q, n = q + 1 := ⟨n - 1, by omega⟩
    unfold fX7_fittingPlies_l4
    rw [show i = 7 by omega, if_pos (by decide)]
    exact ⟨S, rfl, fS⟩
  | succ j ih =>
    intro i n S fS hi h1 hn
    obtain ⟨n, rfl⟩ : ∃ q, n = q + 1 := ⟨n - 1, by omega⟩
    obtain ⟨S2, T2, z1, _, z3, _⟩ := plys hN hx fS Fr.rf hd h1 (by omega)
    unfold fX7_fittingPlies_l4
    rw [if_neg (show ¬ 6 < nI i from nI_nlt (a := 6) (by omega) (by omega)), b2_s z1, lt_s9, lt_s9, lt_s9, nI_1]
    cases hc : plF G S0 n0 d i
    · rw [ifi0, ← bF_no hc]
      exact ih (i + 1) n S2 z3 (by omega) (by omega) (by omega)
    · rw [ifi1, bF_or (by omega) hc]
      exact ih (i + 1) n S2 z3 (by omega) (by omega) (by omega)
theorem c_fit {E N F H n0 d : Nat} {G : Int32 → Int32 → Int32 → Int32 → Int32 → Bool} {pl : Nat → Int32} {S0 T0 : SS} (hN : 20 ≤ N) (hx : Sx E N F H n0 G pl S0 T0) (hd : d < E) : ∃ S2, fX7_fittingPlies N S0 (nI d) = some (S2, nI (bF (plF G S0 n0 d) 7)) ∧ Fr [16, 17] S0 S2 := c_fit_l hN hx hd 6 1 N S0 Fr.rf (by omega) (by omega) (by omega)
def cntF (P : Nat → Bool) : Nat → Nat
  | 0 => 0
  | n + 1 => cntF P n + (if P n then 1 else 0)
theorem pc_bF (P : Nat → Bool) : ∀ n, n ≤ 7 → pc (bF P n) = cntF P n
  | 0, _ => by simp [pc, bF, cntF]
  | n + 1, h => by
    have h1 := pc_bF P n (by omega)
    unfold cntF
    rw [bF_s]
    by_cases hc : P n = true
    · rw [if_pos hc, if_pos hc, k_pc _ (bF_128 P (by omega)) n (by omega) (by rw [bF_tb]; simp), h1]
    · rw [if_neg hc, if_neg hc, h1]
      rfl
/-- the l-th from k on of those of which P holds -/
def selF (P : Nat → Bool) : Nat → Nat → Nat → Int32
  | 0, _, _ => -1
  | j + 1, k, l => if P k then (if l = 0 then nI k else selF P j (k + 1) (l - 1)) else selF P j (k + 1) l
theorem bitAt_l {N : Nat} (P : Nat → Bool) : ∀ (j k n l : Nat), k + j = 7 → j < n → l < 2 ^ 31 → fX11_bitAt_l4 N n (nI (bF P 7)) (nI l) (nI k) = some (selF P j k l) := by
  intro j
  induction j with
  | zero =>
    intro k n l hk hn hl
    obtain ⟨n, rfl⟩ : ∃ q, n = q + 1 := ⟨n - 1, by omega⟩
    unfold fX11_bitAt_l4
    rw [show k = 7 by omega, if_pos (by decide)]
    rfl
  | succ j ih =>
    intro k n l hk hn hl
    obtain ⟨n, rfl⟩ : ∃ q, n = q + 1 := ⟨n - 1, by omega⟩
    have hq := (k_sr _ (bF_128 P (n := 7) (by omega)) k (by omega)).1
    rw [bF_tb] at hq
    unfold fX11_bitAt_l4 selF
    rw [if_neg (show ¬ 6 < nI k from nI_nlt (a := 6) (by omega) (by omega)), if_neg (nI_pos hl), lt_s9, lt_s9, nI_1]
    by_cases hc : P k = true
    · rw [if_pos (hq.mpr (by simp [hc]; omega)), if_pos hc]
      by_cases h0 : l = 0
      · subst h0
        rw [if_pos nI_0]
        rfl
      · rw [if_neg (nI_ne0 (by omega) hl), if_neg h0, sb_m1 (by omega)]
        exact ih (k + 1) n (l - 1) (by omega) (by omega) (by omega)
    · rw [if_neg (fun z => hc (by have := hq.mp z; simp at this; exact this.2)), if_neg hc]
      exact ih (k + 1) n l (by omega) (by omega) hl
theorem m_plies_l {E N F H n0 d : Nat} {G : Int32 → Int32 → Int32 → Int32 → Int32 → Bool} {pl : Nat → Int32} {S0 T0 : SS} (hN : 20 ≤ N) (hx : Sx E N F H n0 G pl S0 T0) (hd : d < E) (t : Nat) (ht : t < 2 ^ 31) : ∀ (j i n c : Nat) (T : SS), Fr [61, 62] T0 T → i + j = 7 → 1 ≤ i → j < n → c ≤ t → ∃ T2, fX12_plies_l20 N n (nI d) (nI t) (nI c) (nI i) T = some (T2, selF (plF G S0 n0 d) j i (t - c)) ∧ Fr [61, 62] T0 T2 := by
  intro j
  induction j with
  | zero =>
    intro i n c T fT hi _ hn hc
    obtain ⟨n, rfl⟩ : ∃ q, n = q + 1 := ⟨n - 1, by omega⟩
    unfold fX12_plies_l20
    rw [show i = 7 by omega, if_pos (by decide), if_neg (nI_m1 ht)]
    exact ⟨T, rfl, fT⟩
  | succ j ih =>
    intro i n c T fT hi h1 hn hc
    obtain ⟨n, rfl⟩ : ∃ q, n = q + 1 := ⟨n - 1, by omega⟩
    obtain ⟨S2, T2, _, z1, _, z3⟩ := plys hN hx Fr.rf fT hd h1 (by omega)
    unfold fX12_plies_l20 selF
    rw [if_neg (show ¬ 6 < nI i from nI_nlt (a := 6) (by omega) (by omega)), b2_s z1, lt_s9, lt_s9, lt_s9, nI_1, nI_1]
    cases hP : plF G S0 n0 d i
    · rw [ifi0, if_neg (by decide)]
      exact ih (i + 1) n c T2 z3 (by omega) (by omega) (by omega) hc
    · rw [ifi1, if_pos rfl]
      by_cases h0 : c = t
      · subst h0
        rw [if_pos rfl, if_pos (by omega)]
        exact ⟨T2, rfl, z3⟩
      · rw [if_neg (fun z => h0 ((nI_eq (by omega) ht).mp z)), if_neg (by omega), show t - c - 1 = t - (c + 1) by omega]
        exact ih (i + 1) n (c + 1) T2 z3 (by omega) (by omega) (by omega) (by omega)
theorem m_pliesc_l {E N F H n0 d : Nat} {G : Int32 → Int32 → Int32 → Int32 → Int32 → Bool} {pl : Nat → Int32} {S0 T0 : SS} (hN : 20 ≤ N) (hx : Sx E N F H n0 G pl S0 T0) (hd : d < E) : ∀ (j i n : Nat) (T : SS), Fr [61, 62] T0 T → i + j = 7 → 1 ≤ i → j < n → ∃ T2, fX12_plies_l20 N n (nI d) (-1) (nI (cntF (plF G S0 n0 d) i)) (nI i) T = some (T2, nI (cntF (plF G S0 n0 d) 7)) ∧ Fr [61, 62] T0 T2 := by
  intro j
  induction j with
  | zero =>
    intro i n T fT hi _ hn
    obtain ⟨n, rfl⟩ : ∃ q, n = q + 1 := ⟨n - 1, by omega⟩
    unfold fX12_plies_l20
    rw [show i = 7 by omega, if_pos (by decide), if_pos rfl]
    exact ⟨T, rfl, fT⟩
  | succ j ih =>
    intro i n T fT hi h1 hn
    obtain ⟨n, rfl⟩ : ∃ q, n = q + 1 := ⟨n - 1, by omega⟩
    obtain ⟨S2, T2, _, z1, _, z3⟩ := plys hN hx Fr.rf fT hd h1 (by omega)
    have hb : pc (bF (plF G S0 n0 d) i) = cntF (plF G S0 n0 d) i := pc_bF _ i (by omega)
    have hb2 : cntF (plF G S0 n0 d) i < 100 := by
      rw [← hb]
      unfold pc
      omega
    have h2 := ih (i + 1) n T2 z3 (by omega) (by omega) (by omega)
    unfold fX12_plies_l20
    rw [if_neg (show ¬ 6 < nI i from nI_nlt (a := 6) (by omega) (by omega)), b2_s z1, lt_s9, lt_s9, lt_s9, nI_1, nI_1]
    unfold cntF at h2
    cases hP : plF G S0 n0 d i
    · rw [ifi0]
      simp only [hP] at h2
      exact h2
    · rw [ifi1, if_neg (nI_m1 (by omega))]
      simp only [hP, if_true] at h2
      exact h2
theorem sx_of {E N : Nat} {S T : SS} (hp : 0 < E) (hm : rMill E S T) (hl : rLaw N S T) (hs : rSeen E S T) : ∃ F H G n0, Sx E N F H n0 G (S.1 5) S T := by
  obtain ⟨F, H, G, h1, h2⟩ := km_of hp hm hl
  obtain ⟨n0, s1, s2, s3, s4⟩ := hs
  exact ⟨F, H, G, n0, h1, h2, hm, s1, s2, s3, s4⟩
theorem s_plies {N : Nat} (hN : 20 ≤ N) {S T : SS} (h : Rel N S T) (a1 a2 : Int32) : ∃ (r : Int32) (S' T' : SS), (fX11_plies N S a1 a2 = some (S', r)) ∧ (fX12_plies N T a1 a2 = some (T', r)) ∧ Rel N S' T' := by
  obtain ⟨E, ht, hm, hl, ha, hi, hs, hz⟩ := id h
  unfold fX11_plies fX12_plies
  rcases end3 (N := N) hm a1 with ⟨e1, e2⟩ | ⟨d, hd, rfl, e1, e2⟩
  · rw [bd_s e1, bd_s e2]
    exact ⟨_, S, T, rfl, rfl, h⟩
  obtain ⟨F, H, G, n0, hx⟩ := sx_of (show 0 < E by omega) hm hl hs
  obtain ⟨S2, z1, z2⟩ := c_fit hN hx hd
  rw [bd_s e1, bd_s e2, if_neg n10, if_neg n10, b2_s z1]
  by_cases h1 : a2 = -1
  · subst h1
    obtain ⟨T2, y1, y2⟩ := m_pliesc_l hN hx hd 6 1 N T Fr.rf (by omega) (by omega) (by omega)
    have y1' : fX12_plies_l20 N N (nI d) (-1) 0 1 T = some (T2, nI (cntF (plF G S n0 d) 7)) := y1
    rw [if_pos rfl, if_pos (by decide), y1', bd_s (bitc (bF_128 _ (by omega))), pc_bF _ 7 (by omega)]
    exact ⟨_, S2, T2, rfl, rfl, rel_fr h (z2.mono (by decide)) (y2.mono (by decide))⟩
  · rw [if_neg h1]
    by_cases h2 : a2 < 0
    · have h3 : ¬ -1 ≤ a2 := fun z => by
        apply h1
        apply Int32.toInt_inj.mp
        have z1 := Int32.le_iff_toInt_le.mp z
        have z2 := Int32.lt_iff_toInt_lt.mp h2
        have z3 : (-1 : Int32).toInt = -1 := by decide
        have z4 : (0 : Int32).toInt = 0 := by decide
        omega
      obtain ⟨N', rfl⟩ : ∃ q, N = q + 1 := ⟨N - 1, by omega⟩
      have e : fX11_bitAt (N' + 1) (nI (bF (plF G S n0 d) 7)) a2 = some (-1) := by
        unfold fX11_bitAt fX11_bitAt_l4
        rw [if_neg (by decide), if_pos h2]
      rw [if_neg h3, bd_s e]
      exact ⟨_, S2, T, rfl, rfl, rel_fr h (z2.mono (by decide)) Fr.rf⟩
    · obtain ⟨t, ht', rfl⟩ := nI_of h2
      obtain ⟨T2, y1, y2⟩ := m_plies_l hN hx hd t ht' 6 1 N 0 T Fr.rf (by omega) (by omega) (by omega) (by omega)
      have hb := bitAt_l (N := N) (plF G S n0 d) 7 0 N t (by omega) (by omega) ht'
      have e0 : selF (plF G S n0 d) 7 0 t = selF (plF G S n0 d) 6 1 (t - 0) := by
        rw [selF]
        rw [if_neg (by unfold plF; simp)]
        rfl
      have y1' : fX12_plies_l20 N N (nI d) (nI t) 0 1 T = some (T2, selF (plF G S n0 d) 6 1 (t - 0)) := y1
      have hb' : fX11_bitAt N (nI (bF (plF G S n0 d) 7)) (nI t) = some (selF (plF G S n0 d) 7 0 t) := hb
      rw [bd_s hb', if_pos (by
        rw [Int32.le_iff_toInt_le, nI_toInt ht']
        have z3 : (-1 : Int32).toInt = -1 := by decide
        omega), y1', e0]
      exact ⟨_, S2, T2, rfl, rfl, rel_fr h (z2.mono (by decide)) (y2.mono (by decide))⟩
