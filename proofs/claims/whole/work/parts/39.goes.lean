/-! goesWith on both sides; fits and could -/
def kxC (k j : Nat) : Prop := lawC k j ∨ k = 3 ∨ k = 5
def mxM (k j : Nat) : Prop := lawM k j ∨ millM k j
def Kx (E N F H : Nat) (G : Int32 → Int32 → Int32 → Int32 → Int32 → Bool) (pl : Nat → Int32) (S : SS) : Prop :=
  E ≤ 7 ∧ gi S 3 0 = nI E ∧ gi S 3 2 = nI F ∧ F ≤ 9 ∧ gi S 3 3 = nI H ∧ H ≤ 9 ∧ (∀ d, d < E → S.1 5 d = pl d) ∧
  ∀ S1, Sm kxC S S1 → S1.2.2 = S.2.2 → ∀ c p l n d, ∃ S2, fX2_allows N S1 c p l n d = some (S2, i01 (G c p l n d)) ∧ Fr [16, 17] S1 S2
def Mx (E N F H : Nat) (G : Int32 → Int32 → Int32 → Int32 → Int32 → Bool) (pl : Nat → Int32) (T : SS) : Prop :=
  E ≤ 7 ∧ gi T 52 22 = nI E ∧ T.1 65 1 = nI F ∧ F ≤ 9 ∧ T.1 65 2 = nI H ∧ H ≤ 9 ∧ (∀ d, d < E → T.1 66 (3 * d + 1) = pl d) ∧
  ∀ T1, Sm mxM T T1 → ∀ c p l n d, ∃ T2, fX12_goesBy N T1 c p l n d = some (T2, i01 (G c p l n d)) ∧ Fr [61, 62] T1 T2
theorem Kx.c {E N F H : Nat} {G : Int32 → Int32 → Int32 → Int32 → Int32 → Bool} {pl : Nat → Int32} {S S' : SS} (h : Kx E N F H G pl S) (hS : Sm kxC S S') (hl : S'.2.2 = S.2.2) : Kx E N F H G pl S' := by
  obtain ⟨h1, h2, h3, h4, h5, h6, h7, h8⟩ := h
  exact ⟨h1, (hS 3 0 (by simp [kxC])).trans h2, (hS 3 2 (by simp [kxC])).trans h3, h4, (hS 3 3 (by simp [kxC])).trans h5, h6, fun d hd => (hS 5 d (by simp [kxC])).trans (h7 d hd), fun S1 g1 g2 => h8 S1 (hS.tr g1) (g2.trans hl)⟩
theorem Mx.c {E N F H : Nat} {G : Int32 → Int32 → Int32 → Int32 → Int32 → Bool} {pl : Nat → Int32} {T T' : SS} (h : Mx E N F H G pl T) (hT : Sm mxM T T') : Mx E N F H G pl T' := by
  obtain ⟨h1, h2, h3, h4, h5, h6, h7, h8⟩ := h
  exact ⟨h1, (hT 52 22 (by simp [mxM, millM])).trans h2, (hT 65 1 (by simp [mxM, millM])).trans h3, h4, (hT 65 2 (by simp [mxM, millM])).trans h5, h6, fun d hd => (hT 66 _ (by simp [mxM, millM])).trans (h7 d hd), fun T1 g1 => h8 T1 (hT.tr g1)⟩
theorem Kx.f {E N F H : Nat} {G : Int32 → Int32 → Int32 → Int32 → Int32 → Bool} {pl : Nat → Int32} {S S' : SS} {X : List Nat} (h : Kx E N F H G pl S) (hf : Fr X S S') (hx : ∀ k, k ∈ X → k ≠ 3 ∧ k ≠ 5 ∧ k ≠ 14 ∧ (k < 48 ∨ 52 ≤ k)) : Kx E N F H G pl S' :=
  h.c (Sm.fr hf (fun k j p q => by
    have := hx k q
    rcases p with (⟨p, _⟩ | p) | p | p <;> omega)) (by rw [hf.2])
theorem Mx.f {E N F H : Nat} {G : Int32 → Int32 → Int32 → Int32 → Int32 → Bool} {pl : Nat → Int32} {T T' : SS} {X : List Nat} (h : Mx E N F H G pl T) (hf : Fr X T T') (hx : ∀ k, k ∈ X → k ≠ 52 ∧ (k < 54 ∨ 60 < k) ∧ k ≠ 65 ∧ k ≠ 66) : Mx E N F H G pl T' :=
  h.c (Sm.fr hf (fun k j p q => by
    have := hx k q
    rcases p with (⟨p, _⟩ | ⟨p, _⟩ | ⟨p, _⟩ | ⟨p, _⟩ | ⟨p, _⟩ | ⟨p, _⟩ | ⟨p, _⟩) | ⟨p, _⟩ | p | p <;> omega))
theorem km_of {E N : Nat} {S T : SS} (hp : 0 < E) (hm : rMill E S T) (hl : rLaw N S T) : ∃ F H G, Kx E N F H G (S.1 5) S ∧ Mx E N F H G (S.1 5) T := by
  obtain ⟨G, hG⟩ := gw_of hp hm hl
  obtain ⟨_, ⟨F, f1, f2, f3⟩, ⟨H, _, g1, g2, g3⟩, hd⟩ := hm.2.2.2 hp
  refine ⟨F, H, G, ⟨hm.2.2.1, hm.1.1, f2, f1, g2, g1, fun _ _ => rfl, fun S1 s1 s2 c p l n d => ?_⟩, ⟨hm.2.2.1, hm.1.2.1, f3, f1, g3, g1, fun d q => ?_, fun T1 s1 c p l n d => ?_⟩⟩
  · obtain ⟨S2, T2, z1, z2, z3, z4⟩ := hG S1 T (s1.mono fun k j q => by
      rcases q with q | q
      · exact Or.inl q
      · exact Or.inr (Or.inl q.1)) s2 Sm.rf c p l n d
    exact ⟨S2, z1, z3⟩
  · obtain ⟨v, _, _, x1, x2⟩ := (hd d q).2.1
    rw [x1, x2]
  · obtain ⟨S2, T2, z1, z2, z3, z4⟩ := hG S T1 Sm.rf rfl (s1.mono fun k j q => by
      rcases q with q | q
      · exact Or.inl q
      · exact Or.inr (by simp [millM]; omega)) c p l n d
    exact ⟨T2, z2, z4⟩
def gwF (G : Int32 → Int32 → Int32 → Int32 → Int32 → Bool) (m pl : Nat → Int32) (a b : Nat) (n : Int32) : Bool := G (ab (m a - m b)) (ab (pl a - pl b)) (m (7 + a) + m (7 + b)) n (m 32)
theorem c_goes {E N F H k : Nat} {G : Int32 → Int32 → Int32 → Int32 → Int32 → Bool} {pl m : Nat → Int32} {S : SS} (h : Kx E N F H G pl S) (hv : Lv E k S m) {a b : Nat} (ha : a < E) (hb : b < E) (n : Int32) : ∃ S2, fX10_goesWith N S k (nI a) (nI b) n = some (S2, i01 (gwF G m pl a b n)) ∧ Fr [16, 17] S S2 := by
  obtain ⟨hE, _, _, _, _, _, h7, h8⟩ := h
  obtain ⟨S2, z1, z2⟩ := h8 S Sm.rf rfl (ab (m a - m b)) (ab (pl a - pl b)) (m (7 + a) + m (7 + b)) n (m 32)
  refine ⟨S2, ?_, z2⟩
  unfold fX10_goesWith
  simp (disch := omega) only [ck_in, ga_nI, lt_s9, (hv.2.1 a ha).1, (hv.2.1 b hb).1, (hv.2.1 a ha).2.1, (hv.2.1 b hb).2.1, h7 a ha, h7 b hb, hv.2.2.2.2.2.2]
  rw [b2_s z1]
  rfl
theorem m_goes {E N F H : Nat} {G : Int32 → Int32 → Int32 → Int32 → Int32 → Bool} {pl : Nat → Int32} {T : SS} (h : Mx E N F H G pl T) {a b : Nat} (ha : a < E) (hb : b < E) (n : Int32) : ∃ T2, fX12_goesWith N T (nI a) (nI b) n = some (T2, i01 (gwF G (T.1 67) pl a b n)) ∧ Fr [61, 62] T T2 := by
  obtain ⟨hE, _, _, _, _, _, h7, h8⟩ := h
  obtain ⟨T2, z1, z2⟩ := h8 T Sm.rf (ab (T.1 67 a - T.1 67 b)) (ab (pl a - pl b)) (T.1 67 (7 + a) + T.1 67 (7 + b)) n (T.1 67 32)
  refine ⟨T2, ?_, z2⟩
  have e1 : fX12_of N T (nI a) 1 = some (pl a) := by
    rw [show (1 : Int32) = nI 1 from rfl, m_of (by omega) 1 (by omega), h7 a ha]
  have e2 : fX12_of N T (nI b) 1 = some (pl b) := by
    rw [show (1 : Int32) = nI 1 from rfl, m_of (by omega) 1 (by omega), h7 b hb]
  unfold fX12_goesWith
  rw [bd_s e1, bd_s e2]
  simp (disch := omega) only [a0, a7, ck_in, ga_nI]
  rw [show ga T 67 32 = T.1 67 32 from rfl, b2_s z1]
  rfl
theorem ifi0 {α : Type} {x y : α} : (if i01 false = 0 then x else y) = x := rfl
theorem ifi1 {α : Type} {x y : α} : (if i01 true = 0 then x else y) = y := rfl
/-- bits of the ends of which P holds -/
def bF (P : Nat → Bool) : Nat → Nat
  | 0 => 0
  | n + 1 => if P n then bF P n ||| 2 ^ n else bF P n
theorem bF_s (P : Nat → Bool) (n : Nat) : bF P (n + 1) = if P n then bF P n ||| 2 ^ n else bF P n := rfl
theorem bF_lt (P : Nat → Bool) : ∀ n, bF P n < 2 ^ n
  | 0 => by simp [bF]
  | n + 1 => by
    have h := bF_lt P n
    rw [bF_s]
    have h1 : bF P n < 2 ^ (n + 1) := Nat.lt_of_lt_of_le h (Nat.pow_le_pow_right (by omega) (by omega))
    split
    · exact Nat.or_lt_two_pow h1 (Nat.pow_lt_pow_right (by omega) (by omega))
    · exact h1
theorem bF_128 (P : Nat → Bool) {n : Nat} (h : n ≤ 7) : bF P n < 128 := Nat.lt_of_lt_of_le (bF_lt P n) (Nat.le_trans (Nat.pow_le_pow_right (by omega) h) (by decide))
theorem bF_tb (P : Nat → Bool) (e : Nat) : ∀ n, (bF P n).testBit e = (decide (e < n) && P e)
  | 0 => by simp [bF]
  | n + 1 => by
    rw [bF_s]
    have h := bF_tb P e n
    by_cases hP : P n = true
    · rw [if_pos hP, tb_or, h]
      by_cases h1 : n = e
      · subst h1
        simp [hP]
      · by_cases h2 : e < n
        · simp [h1, h2, Nat.lt_succ_of_lt h2]
        · have h3 : ¬ e < n + 1 := by omega
          simp [h1, h2, h3]
    · rw [if_neg hP, h]
      by_cases h1 : n = e
      · subst h1
        simp [hP]
      · by_cases h2 : e < n
        · simp [h2, Nat.lt_succ_of_lt h2]
        · have h3 : ¬ e < n + 1 := by omega
          simp [h2, h3]
theorem bF_c {P Q : Nat → Bool} : ∀ n, (∀ i, i < n → P i = Q i) → bF P n = bF Q n
  | 0, _ => rfl
  | n + 1, h => by
    rw [bF_s, bF_s, bF_c n (fun i hi => h i (by omega)), h n (by omega)]
theorem bF_or {P : Nat → Bool} {i : Nat} (hi : i < 7) (h : P i = true) : nI (bF P i) ||| sl 1 (nI i) = nI (bF P (i + 1)) := by
  rw [(k_or _ (bF_128 P (by omega)) i hi).1, bF_s, if_pos h]
theorem bF_no {P : Nat → Bool} {i : Nat} (h : P i = false) : bF P (i + 1) = bF P i := by
  rw [bF_s, h]
  rfl
/-- which could be tried with d and would be knotted -/
def couF (G : Int32 → Int32 → Int32 → Int32 → Int32 → Bool) (m pl : Nat → Int32) (d o : Nat) : Bool := opF m d o && gwF G m pl d o (nI (tw m d).length)
theorem Lv.f {E k : Nat} {S S' : SS} {m : Nat → Int32} {X : List Nat} (h : Lv E k S m) (hf : Fr X S S') (hx : ∀ x, x ∈ X → x < k ∨ k + 4 < x) : Lv E k S' m := by
  have e : ∀ i, i ≤ 4 → S'.1 (k + i) = S.1 (k + i) := fun i hi => hf.1 (k + i) (fun q => by
    have := hx _ q
    omega)
  have e0 := e 0 (by omega)
  have e1 := e 1 (by omega)
  have e2 := e 2 (by omega)
  have e3 := e 3 (by omega)
  have e4 := e 4 (by omega)
  rw [Nat.add_zero] at e0
  unfold Lv gi at *
  rw [e0, e1, e2, e3, e4]
  exact h
theorem fr1617 {k : Nat} (h : 18 ≤ k) : ∀ x, x ∈ ([16, 17] : List Nat) → x < k ∨ k + 4 < x := by
  intro x hx
  simp at hx
  omega
theorem kx1617 : ∀ k, k ∈ ([16, 17] : List Nat) → k ≠ 3 ∧ k ≠ 5 ∧ k ≠ 14 ∧ (k < 48 ∨ 52 ≤ k) := by decide
theorem mx6162 : ∀ k, k ∈ ([61, 62] : List Nat) → k ≠ 52 ∧ (k < 54 ∨ 60 < k) ∧ k ≠ 65 ∧ k ≠ 66 := by decide
theorem c_partners_l {E N F H d : Nat} {G : Int32 → Int32 → Int32 → Int32 → Int32 → Bool} {pl m : Nat → Int32} (hN : 9 ≤ N) (hw : wfL E m) (hd : d < E) : ∀ (j i n : Nat) (S : SS), Kx E N F H G pl S → Lv E 18 S m → i + j = E → j < n → ∃ S2, fX0_partnersOf_l14 N n (nI d) (nI (bF (couF G m pl d) i)) (nI (tw m d).length) (nI i) S = some (S2, nI (bF (couF G m pl d) E)) ∧ Fr [16, 17] S S2 := by
  intro j
  induction j with
  | zero =>
    intro i n S hk hv hi hn
    obtain ⟨n, rfl⟩ : ∃ q, n = q + 1 := ⟨n - 1, by omega⟩
    unfold fX0_partnersOf_l14
    rw [hv.1, if_pos (nI_le (by omega) (by have := hk.1; omega)), show i = E by omega]
    exact ⟨S, rfl, Fr.rf⟩
  | succ j ih =>
    intro i n S hk hv hi hn
    obtain ⟨n, rfl⟩ : ∃ q, n = q + 1 := ⟨n - 1, by omega⟩
    have hE := hk.1
    have hi' : i < E := by omega
    unfold fX0_partnersOf_l14
    rw [hv.1, if_neg (nI_ge (by omega) (by omega)), bd_s (c_open hN hE hv hw hd hi'), lt_s9, nI_1]
    cases ho : opF m d i
    · rw [ifi0, ← bF_no (P := couF G m pl d) (by unfold couF; rw [ho]; rfl)]
      exact ih (i + 1) n S hk hv (by omega) (by omega)
    · rw [ifi1]
      obtain ⟨S2, z1, z2⟩ := c_goes hk hv hd hi' (nI (tw m d).length)
      rw [b2_s z1]
      have hk2 := hk.f z2 kx1617
      have hv2 := hv.f z2 (fr1617 (by omega))
      cases hg : gwF G m pl d i (nI (tw m d).length)
      · rw [ifi0, lt_s9, ← bF_no (P := couF G m pl d) (by unfold couF; rw [ho, hg]; rfl)]
        obtain ⟨S3, y1, y2⟩ := ih (i + 1) n S2 hk2 hv2 (by omega) (by omega)
        exact ⟨S3, y1, z2.tr y2⟩
      · rw [ifi1, lt_s9, lt_s9, bF_or (P := couF G m pl d) (by omega) (by unfold couF; rw [ho, hg]; rfl)]
        obtain ⟨S3, y1, y2⟩ := ih (i + 1) n S2 hk2 hv2 (by omega) (by omega)
        exact ⟨S3, y1, z2.tr y2⟩
theorem c_partners {E N F H d : Nat} {G : Int32 → Int32 → Int32 → Int32 → Int32 → Bool} {pl m : Nat → Int32} {S : SS} (hN : 9 ≤ N) (hk : Kx E N F H G pl S) (hv : Lv E 18 S m) (hw : wfL E m) (hd : d < E) : ∃ S2, fX0_partnersOf N S (nI d) = some (S2, nI (bF (couF G m pl d) E)) ∧ Fr [16, 17] S S2 := by
  unfold fX0_partnersOf
  rw [bd_s (c_size hN hk.1 hv hw hd)]
  exact c_partners_l hN hw hd E 0 N S hk hv (by omega) (by have := hk.1; omega)
theorem m_fits {E N F H : Nat} {G : Int32 → Int32 → Int32 → Int32 → Int32 → Bool} {pl : Nat → Int32} {T : SS} (hN : 9 ≤ N) (h : Mx E N F H G pl T) (hw : wfL E (T.1 67)) {a b : Nat} (ha : a < E) (hb : b < E) : ∃ T2, fX12_fitsNow N T (nI a) (nI b) = some (T2, i01 (gwF G (T.1 67) pl a b (nI (tw (T.1 67) a).length))) ∧ Fr [61, 62] T T2 := by
  obtain ⟨T2, z1, z2⟩ := m_goes h ha hb (nI (tw (T.1 67) a).length)
  refine ⟨T2, ?_, z2⟩
  unfold fX12_fitsNow
  rw [bd_s (m_many hN h.1 hw ha), b2_s z1]
theorem m_could_l {E N F H d : Nat} {G : Int32 → Int32 → Int32 → Int32 → Int32 → Bool} {pl m : Nat → Int32} (hN : 9 ≤ N) (hw : wfL E m) (hd : d < E) : ∀ (j i n : Nat) (T : SS), Mx E N F H G pl T → T.1 67 = m → i + j = E → j < n → ∃ T2, fX12_couldOf_l4 N n (nI d) (nI (bF (couF G m pl d) i)) (nI i) T = some (T2, nI (bF (couF G m pl d) E)) ∧ Fr [61, 62] T T2 := by
  intro j
  induction j with
  | zero =>
    intro i n T hk hv hi hn
    obtain ⟨n, rfl⟩ : ∃ q, n = q + 1 := ⟨n - 1, by omega⟩
    unfold fX12_couldOf_l4
    rw [hk.2.1, if_pos (nI_le (by omega) (by have := hk.1; omega)), show i = E by omega]
    exact ⟨T, rfl, Fr.rf⟩
  | succ j ih =>
    intro i n T hk hv hi hn
    obtain ⟨n, rfl⟩ : ∃ q, n = q + 1 := ⟨n - 1, by omega⟩
    have hE := hk.1
    have hi' : i < E := by omega
    subst hv
    unfold fX12_couldOf_l4
    rw [hk.2.1, if_neg (nI_ge (by omega) (by omega)), bd_s (m_open hN hE hw hd hi'), lt_s9, lt_s9, or0, nI_1]
    cases ho : opF (T.1 67) d i
    · rw [ifi0, ← bF_no (P := couF G (T.1 67) pl d) (by unfold couF; rw [ho]; rfl)]
      exact ih (i + 1) n T hk rfl (by omega) (by omega)
    · rw [ifi1]
      obtain ⟨T2, z1, z2⟩ := m_fits hN hk hw hd hi'
      rw [b2_s z1]
      have hk2 := hk.f z2 mx6162
      have hv2 : T2.1 67 = T.1 67 := z2.row (by decide)
      cases hg : gwF G (T.1 67) pl d i (nI (tw (T.1 67) d).length)
      · rw [ifi0, lt_s9, lt_s9, ← bF_no (P := couF G (T.1 67) pl d) (by unfold couF; rw [ho, hg]; rfl)]
        obtain ⟨S3, y1, y2⟩ := ih (i + 1) n T2 hk2 hv2 (by omega) (by omega)
        exact ⟨S3, y1, z2.tr y2⟩
      · rw [ifi1, lt_s9, lt_s9, bF_or (P := couF G (T.1 67) pl d) (by omega) (by unfold couF; rw [ho, hg]; rfl)]
        obtain ⟨S3, y1, y2⟩ := ih (i + 1) n T2 hk2 hv2 (by omega) (by omega)
        exact ⟨S3, y1, z2.tr y2⟩
theorem m_could {E N F H d : Nat} {G : Int32 → Int32 → Int32 → Int32 → Int32 → Bool} {pl : Nat → Int32} {T : SS} (hN : 9 ≤ N) (hk : Mx E N F H G pl T) (hw : wfL E (T.1 67)) (hd : d < E) : ∃ T2, fX12_couldOf N T (nI d) = some (T2, nI (bF (couF G (T.1 67) pl d) E)) ∧ Fr [61, 62] T T2 := m_could_l hN hw hd E 0 N T hk rfl (by omega) (by have := hk.1; omega)
/-- scratch alone has changed -/
theorem rel_fr {N : Nat} {S T S' T' : SS} (h : Rel N S T) (hS : Fr [16, 17, 29, 30, 31, 32, 33, 34, 35, 36, 37, 38, 39, 45, 46] S S') (hT : Fr [61, 62, 70, 71, 72, 73] T T') : Rel N S' T' := by
  refine Rel_c (Sm.fr hS fun k j p => ?_) (by rw [hS.2]) (Sm.fr hT fun k j p => ?_) h
  · simp only [allC, tapeC, millC, lawC, actC, imgC, seenC, miscC] at p
    simp
    omega
  · simp only [allM, tapeM, millM, lawM, actM, imgM, seenM, miscM] at p
    simp
    omega
theorem two3 {E N : Nat} {S T : SS} (hm : rMill E S T) (x y : Int32) : (fX12_areTwo N T x y = some 0 ∧ (fX5_has N S 3 x = some 0 ∨ (fX5_has N S 3 x = some 1 ∧ (fX5_has N S 3 y = some 0 ∨ (fX5_has N S 3 y = some 1 ∧ x = y))))) ∨ ∃ a b, a < E ∧ b < E ∧ a ≠ b ∧ x = nI a ∧ y = nI b ∧ fX12_areTwo N T x y = some 1 ∧ fX5_has N S 3 x = some 1 ∧ fX5_has N S 3 y = some 1 ∧ ¬ x = y := by
  have hE := hm.2.2.1
  unfold fX12_areTwo
  rcases end3 (N := N) hm x with ⟨e1, e2⟩ | ⟨a, ha, rfl, e1, e2⟩
  · rw [bd_s e2]
    exact Or.inl ⟨rfl, Or.inl e1⟩
  rcases end3 (N := N) hm y with ⟨f1, f2⟩ | ⟨b, hb, rfl, f1, f2⟩
  · rw [bd_s e2, bd_s f2]
    exact Or.inl ⟨rfl, Or.inr ⟨e1, Or.inl f1⟩⟩
  rw [bd_s e2, bd_s f2]
  by_cases h : a = b
  · subst h
    left
    refine ⟨?_, Or.inr ⟨e1, Or.inr ⟨f1, rfl⟩⟩⟩
    rw [if_neg n10, if_neg n10, if_pos rfl]
  · right
    have hn : ¬ nI a = nI b := fun z => h ((nI_eq (by omega) (by omega)).mp z)
    refine ⟨a, b, ha, hb, h, rfl, rfl, ?_, e1, f1, hn⟩
    rw [if_neg n10, if_neg n10, if_neg hn]
theorem s_fits {N : Nat} (hN : 9 ≤ N) {S T : SS} (h : Rel N S T) (a1 a2 : Int32) : ∃ (r : Int32) (S' T' : SS), (fX11_fits N S a1 a2 = some (S', r)) ∧ (fX12_fits N T a1 a2 = some (T', r)) ∧ Rel N S' T' := by
  obtain ⟨E, ht, hm, hl, ha, hi, hs, hz⟩ := id h
  have hc := cx_of hm ha
  obtain ⟨hE, _, hv, hw⟩ := id hc
  unfold fX11_fits fX12_fits
  rcases two3 (N := N) hm a1 a2 with ⟨e1, e2⟩ | ⟨a, b, qa, qb, hn, rfl, rfl, e1, e2, e3, e4⟩
  · rw [bd_s e1]
    refine ⟨-1, S, T, ?_, rfl, h⟩
    rcases e2 with e2 | ⟨e2, e3 | ⟨e3, e4⟩⟩
    · rw [bd_s e2]
      rfl
    · rw [bd_s e2, bd_s e3]
      rfl
    · rw [bd_s e2, bd_s e3, if_pos e4]
      rfl
  · obtain ⟨F, H, G, hK, hM⟩ := km_of (show 0 < E by omega) hm hl
    obtain ⟨S2, z1, z2⟩ := c_goes hK hv qa qb (nI (tw (T.1 67) a).length)
    obtain ⟨T2, y1, y2⟩ := m_fits hN hM hw qa qb
    rw [bd_s e1, bd_s e2, bd_s e3, if_neg n10, if_neg n10, if_neg n10, if_neg e4, bd_s (c_size hN hE hv hw qa), b2_s z1, b2_s y1]
    refine ⟨i01 (gwF G (T.1 67) (S.1 5) a b (nI (tw (T.1 67) a).length)), S2, T2, ?_, ?_, rel_fr h (z2.mono (by decide)) (y2.mono (by decide))⟩
    · cases gwF G (T.1 67) (S.1 5) a b (nI (tw (T.1 67) a).length) <;> rfl
    · cases gwF G (T.1 67) (S.1 5) a b (nI (tw (T.1 67) a).length) <;> rfl
theorem s_could {N : Nat} (hN : 9 ≤ N) {S T : SS} (h : Rel N S T) (a1 : Int32) : ∃ (r : Int32) (S' T' : SS), (fX11_could N S a1 = some (S', r)) ∧ (fX12_could N T a1 = some (T', r)) ∧ Rel N S' T' := by
  obtain ⟨E, ht, hm, hl, ha, hi, hs, hz⟩ := id h
  have hc := cx_of hm ha
  obtain ⟨hE, _, hv, hw⟩ := id hc
  unfold fX11_could fX12_could
  rcases end3 (N := N) hm a1 with ⟨e1, e2⟩ | ⟨d, hd, rfl, e1, e2⟩
  · rw [bd_s e1, bd_s e2]
    exact ⟨_, S, T, rfl, rfl, h⟩
  obtain ⟨F, H, G, hK, hM⟩ := km_of (show 0 < E by omega) hm hl
  obtain ⟨S2, z1, z2⟩ := c_partners hN hK hv hw hd
  obtain ⟨T2, y1, y2⟩ := m_could hN hM hw hd
  rw [bd_s e1, bd_s e2, if_neg n10, if_neg n10, b2_s z1, b2_s y1]
  exact ⟨_, S2, T2, rfl, rfl, rel_fr h (z2.mono (by decide)) (y2.mono (by decide))⟩
