/-! seen and ask -/
def balF (P Q : Nat → Bool) : Nat → Nat → Int32 → Int32
  | 0, _, x => x
  | j + 1, p, x => if P p then (if Q p then balF P Q j (p + 1) (x + 1) else balF P Q j (p + 1) (x + (-1))) else balF P Q j (p + 1) x
theorem c_apart_l {E N F H n0 d o : Nat} {G : Int32 → Int32 → Int32 → Int32 → Int32 → Bool} {pl : Nat → Int32} {S0 T0 : SS} (hx : Sx E N F H n0 G pl S0 T0) (hd : d < E) (ho : o < E) (P : Nat → Bool) : ∀ (j i n : Nat) (x : Int32) (S : SS), Fr [16, 17] S0 S → i + j = 7 → j < n → ∃ S2, fX7_apartBy_l6 N n (nI d) (nI (bF P 7)) (nI o) x (nI i) S = some (S2, ab (balF P (fun p => tlF G S0 d (nI p) o) j i x)) ∧ Fr [16, 17] S0 S2 := by
  intro j
  induction j with
  | zero =>
    intro i n x S fS hi hn
    obtain ⟨n, rfl⟩ : ∃ q, n = q + 1 := ⟨n - 1, by omega⟩
    unfold fX7_apartBy_l6
    rw [show i = 7 by omega, if_pos (by decide)]
    exact ⟨S, rfl, fS⟩
  | succ j ih =>
    intro i n x S fS hi hn
    obtain ⟨n, rfl⟩ : ∃ q, n = q + 1 := ⟨n - 1, by omega⟩
    have hq := (k_sr _ (bF_128 P (n := 7) (by omega)) i (by omega)).1
    rw [bF_tb] at hq
    unfold fX7_apartBy_l6 balF
    rw [if_neg (show ¬ 6 < nI i from nI_nlt (a := 6) (by omega) (by omega)), lt_s9, nI_1]
    by_cases hc : P i = true
    · rw [if_pos (hq.mpr (by simp [hc]; omega)), if_pos hc]
      obtain ⟨S2, z1, z2⟩ := c_told hx.1 fS hd ho (nI i)
      rw [b2_s z1, lt_s9, lt_s9, lt_s9, lt_s9]
      cases tlF G S0 d (nI i) o
      · exact ih (i + 1) n _ S2 z2 (by omega) (by omega)
      · exact ih (i + 1) n _ S2 z2 (by omega) (by omega)
    · rw [if_neg (fun z => hc (by have := hq.mp z; simp at this; exact this.2)), if_neg hc]
      exact ih (i + 1) n x S fS (by omega) (by omega)
theorem m_ask1 {E N F H n0 d o : Nat} {G : Int32 → Int32 → Int32 → Int32 → Int32 → Bool} {pl : Nat → Int32} {S0 T0 : SS} (hN : 20 ≤ N) (hx : Sx E N F H n0 G pl S0 T0) (hd : d < E) (ho : o < E) (hne : o ≠ d) (kc : Int32 → Int32 → Int32 → Int32 → SS → Option (SS × Int32)) (f l : Int32) : ∀ (j i n : Nat) (x : Int32) (T : SS), Fr [61, 62] T0 T → i + j = 7 → 1 ≤ i → j < n → ∃ T2, fX12_ask_l42 N kc n (nI d) f l (nI o) x (nI i) T = fX12_ask_l42 N kc 1 (nI d) f l (nI o) (balF (plF G S0 n0 d) (fun p => tlF G S0 d (nI p) o) j i x) (nI 7) T2 ∧ Fr [61, 62] T0 T2 := by
  have hE := hx.1.1
  intro j
  induction j with
  | zero =>
    intro i n x T fT hi _ hn
    obtain ⟨n, rfl⟩ : ∃ q, n = q + 1 := ⟨n - 1, by omega⟩
    refine ⟨T, ?_, fT⟩
    unfold fX12_ask_l42
    rw [show i = 7 by omega, if_pos (show (6 : Int32) < nI 7 by decide), if_pos (show (6 : Int32) < nI 7 by decide)]
    rfl
  | succ j ih =>
    intro i n x T fT hi h1 hn
    obtain ⟨n, rfl⟩ : ∃ q, n = q + 1 := ⟨n - 1, by omega⟩
    obtain ⟨_, T2, _, z1, _, z3⟩ := plys hN hx Fr.rf fT hd h1 (by omega)
    unfold balF
    rw [fX12_ask_l42]
    rw [if_neg (show ¬ 6 < nI i from nI_nlt (a := 6) (by omega) (by omega)), if_neg (fun z => hne ((nI_eq (by omega) (by omega)).mp z)), b2_s z1]
    simp only [lt_s9, Int32.add_zero, nI_1]
    cases hP : plF G S0 n0 d i
    · rw [ifi0]
      exact ih (i + 1) n x T2 z3 (by omega) (by omega) (by omega)
    · rw [ifi1, if_pos rfl]
      have eo : fX12_of N T2 (nI o) 1 = some (T0.1 66 (3 * o + 1)) := by
        rw [show (1 : Int32) = nI 1 from rfl, m_of (by omega) 1 (by omega), z3.row (by decide)]
      obtain ⟨T3, y1, y2⟩ := m_told hx.2.1 z3 hd ho (nI i) (T0.1 66 (3 * o + 1))
      rw [(told_12 (G := G) hx.2.2.1 (by omega) hd ho (p := i) (by omega)).1] at y1
      rw [bd_s eo, b2_s y1]
      cases tlF G S0 d (nI i) o
      · exact ih (i + 1) n _ T3 y2 (by omega) (by omega) (by omega)
      · exact ih (i + 1) n _ T3 y2 (by omega) (by omega) (by omega)
theorem m_ask2 {N d : Nat} (kc : Int32 → Int32 → Int32 → Int32 → SS → Option (SS × Int32)) (f l : Int32) (T : SS) : ∀ (j i n : Nat) (x : Int32), i + j = 7 → j < n → fX12_ask_l42 N kc n (nI d) f l (nI d) x (nI i) T = kc (nI d) f l (nI (d + 1)) T := by
  intro j
  induction j with
  | zero =>
    intro i n x hi hn
    obtain ⟨n, rfl⟩ : ∃ q, n = q + 1 := ⟨n - 1, by omega⟩
    unfold fX12_ask_l42
    rw [show i = 7 by omega, if_pos (by decide), if_pos rfl, lt_s9, nI_1]
  | succ j ih =>
    intro i n x hi hn
    obtain ⟨n, rfl⟩ : ∃ q, n = q + 1 := ⟨n - 1, by omega⟩
    unfold fX12_ask_l42
    rw [if_neg (show ¬ 6 < nI i from nI_nlt (a := 6) (by omega) (by omega)), if_pos rfl, lt_s9, lt_s9, nI_1]
    exact ih (i + 1) n _ (by omega) (by omega)
theorem asks_l {E N F H n0 d : Nat} {G : Int32 → Int32 → Int32 → Int32 → Int32 → Bool} {pl : Nat → Int32} {S0 T0 : SS} (hN : 20 ≤ N) (hx : Sx E N F H n0 G pl S0 T0) (hd : d < E) (hv : ¬ nI (bF (plF G S0 n0 d) 7) = 0) : ∀ (j i n : Nat) (f l : Int32) (S T : SS), Fr [16, 17] S0 S → Fr [61, 62] T0 T → i + j = E → j < n → ∃ S2 T2 r, fX7_bestToTry_l8 N n (nI d) (nI (bF (plF G S0 n0 d) 7)) f l (nI i) S = some (S2, r) ∧ fX12_ask_l27 N n (nI d) f l (nI i) T = some (T2, r) ∧ Fr [16, 17] S0 S2 ∧ Fr [61, 62] T0 T2 := by
  have hE := hx.1.1
  intro j
  induction j with
  | zero =>
    intro i n f l S T fS fT hi hn
    obtain ⟨n, rfl⟩ : ∃ q, n = q + 1 := ⟨n - 1, by omega⟩
    unfold fX7_bestToTry_l8 fX12_ask_l27
    rw [if_neg hv, fS.gi (by decide), fT.gi (by decide), hx.1.2.1, hx.2.1.2.1, if_pos (nI_le (by omega) (by omega)), if_pos (nI_le (by omega) (by omega))]
    exact ⟨S, T, f, rfl, rfl, fS, fT⟩
  | succ j ih =>
    intro i n f l S T fS fT hi hn
    obtain ⟨n, rfl⟩ : ∃ q, n = q + 1 := ⟨n - 1, by omega⟩
    have hi' : i < E := by omega
    unfold fX7_bestToTry_l8 fX12_ask_l27
    rw [if_neg hv, fS.gi (by decide), fT.gi (by decide), hx.1.2.1, hx.2.1.2.1, if_neg (nI_ge (by omega) (by omega)), if_neg (nI_ge (by omega) (by omega))]
    by_cases h1 : i = d
    · subst h1
      have e := m_ask2 (N := N) (d := i) (fX12_ask_l27 N n) f l T 6 1 N 0 (by omega) (by omega)
      have e' : fX12_ask_l42 N (fX12_ask_l27 N n) N (nI i) f l (nI i) 0 1 T = fX12_ask_l27 N n (nI i) f l (nI (i + 1)) T := e
      rw [if_pos rfl, lt_s9, nI_1, e']
      exact ih (i + 1) n f l S T fS fT (by omega) (by omega)
    · rw [if_neg (fun z => h1 ((nI_eq (by omega) (by omega)).mp z))]
      obtain ⟨S2, z1, z2⟩ := c_apart_l (N := N) hx hd hi' (plF G S0 n0 d) 6 1 N 0 S fS (by omega) (by omega)
      obtain ⟨T2, y1, y2⟩ := m_ask1 hN hx hd hi' h1 (fX12_ask_l27 N n) f l 6 1 N 0 T fT (by omega) (by omega) (by omega)
      have z1' : fX7_apartBy N S (nI d) (nI (bF (plF G S0 n0 d) 7)) (nI i) = _ := z1
      have y1' : fX12_ask_l42 N (fX12_ask_l27 N n) N (nI d) f l (nI i) 0 1 T = _ := y1
      rw [b2_s z1', y1']
      generalize balF (plF G S0 n0 d) (fun p => tlF G S0 d (nI p) i) 6 1 0 = B
      unfold fX12_ask_l42 fX12_ask_j124
      rw [if_pos (show (6 : Int32) < nI 7 by decide), if_neg (fun z => h1 ((nI_eq (by omega) (by omega)).mp z))]
      simp only [lt_s9, nI_1]
      by_cases h2 : f = -1
      · rw [if_pos h2, if_pos h2]
        exact ih (i + 1) n _ _ S2 T2 z2 y2 (by omega) (by omega)
      · rw [if_neg h2, if_neg h2]
        by_cases h3 : l ≤ ab B
        · rw [if_pos h3, if_pos h3]
          exact ih (i + 1) n _ _ S2 T2 z2 y2 (by omega) (by omega)
        · rw [if_neg h3, if_neg h3]
          exact ih (i + 1) n _ _ S2 T2 z2 y2 (by omega) (by omega)
theorem selF_no (P : Nat → Bool) : ∀ (j k : Nat), k + j ≤ 7 → (selF P j k 0 = -1 ↔ ∀ i, k ≤ i → i < k + j → P i = false)
  | 0, k, _ => ⟨fun _ i h1 h2 => absurd h1 (by omega), fun _ => rfl⟩
  | j + 1, k, hk => by
    have ih := selF_no P j (k + 1) (by omega)
    unfold selF
    by_cases hc : P k = true
    · rw [if_pos hc, if_pos rfl]
      refine ⟨fun z => absurd z (nI_m1 (by omega)), fun z => ?_⟩
      have := z k (by omega) (by omega)
      rw [hc] at this
      exact absurd this (by decide)
    · rw [if_neg hc, ih]
      constructor
      · intro z i h1 h2
        by_cases e : i = k
        · subst e
          exact eq_false_of_ne_true hc
        · exact z i (by omega) (by omega)
      · exact fun z i h1 h2 => z i (by omega) (by omega)
theorem bF_0 (P : Nat → Bool) : nI (bF P 7) = 0 ↔ ∀ i, i < 7 → P i = false := by
  have hb := bF_128 P (n := 7) (by omega)
  constructor
  · intro z i hi
    have h0 : bF P 7 = 0 := by
      rcases Nat.eq_zero_or_pos (bF P 7) with q | q
      · exact q
      · exact absurd z (nI_ne0 q (by omega))
    have := bF_tb P i 7
    rw [h0, Nat.zero_testBit] at this
    simp [hi] at this
    exact this
  · intro z
    rw [bF_c (P := P) (Q := fun _ => false) 7 z]
    rfl
theorem s_ask {N : Nat} (hN : 20 ≤ N) {S T : SS} (h : Rel N S T) (a1 : Int32) : ∃ (r : Int32) (S' T' : SS), (fX11_ask N S a1 = some (S', r)) ∧ (fX12_ask N T a1 = some (T', r)) ∧ Rel N S' T' := by
  obtain ⟨E, ht, hm, hl, ha, hi, hs, hz⟩ := id h
  unfold fX11_ask fX12_ask
  rcases end3 (N := N) hm a1 with ⟨e1, e2⟩ | ⟨d, hd, rfl, e1, e2⟩
  · rw [bd_s e1, bd_s e2]
    exact ⟨_, S, T, rfl, rfl, h⟩
  obtain ⟨F, H, G, n0, hx⟩ := sx_of (show 0 < E by omega) hm hl hs
  obtain ⟨S2, z1, z2⟩ := c_fit hN hx hd
  obtain ⟨T2, y1, y2⟩ := m_plies_l hN hx hd 0 (by omega) 6 1 N 0 T Fr.rf (by omega) (by omega) (by omega) (by omega)
  have y1' : fX12_plies N T (nI d) 0 = some (T2, selF (plF G S n0 d) 6 1 0) := by
    unfold fX12_plies
    rw [bd_s e2, if_neg n10, if_pos (by decide)]
    exact y1
  rw [bd_s e1, bd_s e2, if_neg n10, if_neg n10, b2_s z1, b2_s y1']
  have hz0 : plF G S n0 d 0 = false := by
    unfold plF
    simp
  by_cases hb : nI (bF (plF G S n0 d) 7) = 0
  · have hs1 : selF (plF G S n0 d) 6 1 0 = -1 := (selF_no _ 6 1 (by omega)).mpr (fun i h1 h2 => (bF_0 _).mp hb i (by omega))
    obtain ⟨N', rfl⟩ : ∃ q, N = q + 1 := ⟨N - 1, by omega⟩
    have e : fX7_bestToTry (N' + 1) S2 (nI d) (nI (bF (plF G S n0 d) 7)) = some (S2, -1) := by
      unfold fX7_bestToTry fX7_bestToTry_l8
      rw [lt_s9, if_pos hb]
    rw [b2_s e, if_pos hs1]
    exact ⟨_, S2, T2, rfl, rfl, rel_fr h (z2.mono (by decide)) (y2.mono (by decide))⟩
  · have hs1 : ¬ selF (plF G S n0 d) 6 1 0 = -1 := fun z => hb ((bF_0 _).mpr (fun i h1 => by
      by_cases e : i = 0
      · subst e
        exact hz0
      · exact (selF_no _ 6 1 (by omega)).mp z i (by omega) (by omega)))
    obtain ⟨S3, T3, r, x1, x2, x3, x4⟩ := asks_l hN hx hd hb E 0 N (-1) 0 S2 T2 z2 y2 (by omega) (by have := hx.1.1; omega)
    have x1' : fX7_bestToTry N S2 (nI d) (nI (bF (plF G S n0 d) 7)) = some (S3, r) := x1
    have x2' : fX12_ask_l27 N N (nI d) (-1) 0 0 T2 = some (T3, r) := x2
    rw [b2_s x1', if_neg hs1, lt_s9, x2']
    exact ⟨_, S3, T3, rfl, rfl, rel_fr h (x3.mono (by decide)) (x4.mono (by decide))⟩
theorem nb_isb {x : Int32} (h : isb x = true) : (x = 0 ∨ x = 1) ∧ nb x = x := by
  have : x = 0 ∨ x = 1 := by
    unfold isb at h
    simpa using h
  refine ⟨this, ?_⟩
  rcases this with rfl | rfl <;> rfl
