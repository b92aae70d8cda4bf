theorem LB.dp {n t a dp d2 : Nat} {tp : Nat → Nat} {ls : List Int32} {lc : List (Nat × Nat)} {S T : SS} (h : LB n tp t a ls lc dp S T) : LB n tp t a ls lc d2 S (pj T 52 5 (nI d2)) := by
  obtain ⟨h1, h2, h3, h4, h5, h6, h7, h8⟩ := h
  have f2 : FP (fun k j => k = 52 ∧ j = 5) T (pj T 52 5 (nI d2)) := FP.pj ⟨rfl, rfl⟩
  exact ⟨h1.f (FP.rf (P := fun _ _ => False)) f2 (fun q => q) (fun _ q => q) (fun q => q) (by omega) (by intro j; omega) (by omega) (by omega), h2, h3.f f2 (fun k j q => q.1), (f2.gi (by omega)).trans h4, by rw [gi_pj]; rfl, h6, h7, h8⟩
theorem Res.app {n t a a1 dp u : Nat} {tp : Nat → Nat} {ls : List Int32} {lc ox : List (Nat × Nat)} {P P2 : List (Nat × Nat) → Prop} {S T S1 T1 : SS} {x : Option (SS × Int32)} {y : Option SS} (h : Res n tp t a1 (ls ++ ox.map stI) (lc ++ ox) dp P2 u S1 T1 x y) (ha : a + ox.length ≤ a1) (hP : ∀ o, P2 o → P (ox ++ o)) (fS : FP lrC S S1) (fT : FP (lrM t) T T1) : Res n tp t a ls lc dp P u S T x y := by
  rcases h with ⟨a', ops, S2, T2, h1, h2, h3, h4, h5, h6, h7⟩ | ⟨w, S2, T2, c, h1, h2, h3, h4, h5, h6, h7, h8, h9⟩
  · refine Or.inl ⟨a', ox ++ ops, S2, T2, h1, h2, ?_, by rw [List.length_append]; omega, hP ops h5, fS.tr h6, fT.tr h7⟩
    rw [List.map_append, ← List.append_assoc, ← List.append_assoc]
    exact h3
  · exact Or.inr ⟨w, S2, T2, c, h1, h2, h3, h4, h5, h6, h7, fS.tr h8, fT.tr h9⟩
theorem Res.pu {n t a dp u u' : Nat} {tp : Nat → Nat} {ls : List Int32} {lc : List (Nat × Nat)} {P P2 : List (Nat × Nat) → Prop} {S T : SS} {x : Option (SS × Int32)} {y : Option SS} (h : Res n tp t a ls lc dp P2 u S T x y) (hP : ∀ o, P2 o → P o) (hu : u ≤ u') : Res n tp t a ls lc dp P u' S T x y := by
  rcases h with ⟨a', ops, S2, T2, h1, h2, h3, h4, h5, h6, h7⟩ | ⟨w, S2, T2, c, h1, h2, h3, h4, h5, h6, h7, h8, h9⟩
  · exact Or.inl ⟨a', ops, S2, T2, h1, h2, h3, h4, hP ops h5, h6, h7⟩
  · exact Or.inr ⟨w, S2, T2, c, h1, h2, h3, h4, h5, h6, by omega, h8, h9⟩
theorem lc_le {n t a dp : Nat} {tp : Nat → Nat} {ls : List Int32} {lc : List (Nat × Nat)} {S T : SS} (hb : tpB n tp) (h : LB n tp t a ls lc dp S T) : lc.length ≤ 240 ∧ a ≤ 240 := by
  obtain ⟨h1, h2, h3, h4, h5, h6, h7, h8⟩ := h
  have := h1.2.2.2.2.2
  have := hb.1
  omega
theorem x_atom {n N t dp a kA uA : Nat} {tp : Nat → Nat} {ls : List Int32} {lc : List (Nat × Nat)} {S T : SS} {recC : SS → Int32 → Option (SS × Int32)} {recM : SS → Option SS} (hN : 250 ≤ N) (hb : tpB n tp) (ht : t ≤ 4) (hd : dp ≤ 6) (hk : 1 ≤ kA) (hu : 1 ≤ uA) (hu2 : uA ≤ 100)
    (hrec : dp < 6 → ∀ a ls lc S T, LB n tp t a ls lc (dp + 1) S T → Res n tp t a ls lc (dp + 1) (Num kA) uA S T (recC S (nI (dp + 1))) (recM T))
    (h : LB n tp t a ls lc dp S T) : Res n tp t a ls lc dp (Num kA) uA S T (fX3_readAtom N recC S (nI dp)) (fX12_atom N recM T) := by
  have hn := hb.1
  obtain ⟨S3, T3, s1, t1, s2, t2, b3, hA⟩ := h.look hN hb
  have hss : sk n tp (sk n tp a) = sk n tp a := sk_sk h.1.2.2.2.2.2
  refine Res.pre ?_ hA (s2.mono (fun k j => atC_lr)) (t2.mono (fun k j => atM_lr))
  unfold fX3_readAtom fX12_atom
  rw [b2_s s1, b2_s t1, bd_s (dgC hb).1, bd_s (dgC hb).2]
  generalize sk n tp a = A at *
  have hl3 := lc_le hb b3
  obtain ⟨⟨hC, hM, hS, hT, h4, hAn⟩, g2, g3, g4, g5, g6, g7, g8⟩ := id b3
  have badT : Res n tp t A ls lc dp (Num kA) uA S3 T3 (some (S3, 0)) (bd (fX12_bad N T3) fun T12 => some T12) := by
    rw [bd_s (m_bad1 h4), hT]
    exact Or.inr ⟨A, S3, _, lc.length, rfl, rfl, hAn, hS, by rw [gi_pj]; rfl, by rw [pj_ne (by decide)]; exact g3.1, by omega, FP.rf, FP.pj (by unfold lrM; omega)⟩
  cases hdg : dg n tp A
  · rw [ifi0, ifi0]
    rcases lettr (N := N) (ch n tp A) with ⟨i1, i2⟩ | ⟨k, v, k1, k2, k3, k4, i1, i2⟩
    · rw [bd_s i1, bd_s i2, if_pos rfl]
      by_cases c91 : ch n tp A = 91
      · have hlt : A < n := (ch_in (v := 91) (by omega) c91).1
        rw [if_pos c91, if_pos c91]
        by_cases hd6 : dp < 6
        · rw [if_pos (show nI dp < 6 from nI_lt (b := 6) hd6 (by omega)), lt_s9, nI_1, bd_s (m_opens0 g5 hd6)]
          have b4 : LB n tp t (A + 1) ls lc (dp + 1) (pj S3 1 2 (gi S3 1 2 + 1)) (pj (pj T3 52 5 (nI (dp + 1))) 52 3 (gi T3 52 3 + 1)) := by
            have := (b3.dp (d2 := dp + 1)).step hlt
            rw [gi_ne (j' := 3) (j := 5) (by decide)] at this
            exact this
          have f4 : FP lrC S3 (pj S3 1 2 (gi S3 1 2 + 1)) := FP.pj (Or.inl ⟨rfl, rfl⟩)
          have q4 : FP (lrM t) T3 (pj (pj T3 52 5 (nI (dp + 1))) 52 3 (gi T3 52 3 + 1)) := (FP.pj (by unfold lrM; omega)).tr (FP.pj (by unfold lrM; omega))
          rw [if_pos b4.1.2.2.2.2.1]
          rcases hrec hd6 _ _ _ _ _ b4 with ⟨a', ops, S2, T2, y1, y2, y3, y4, y5, y6, y7⟩ | ⟨w, S2, T2, c, y1, y2, y3, y4, y5, y6, y7, y8, y9⟩
          · rw [b2_s y1, if_neg n10, bd_s y2]
            have hl5 := lc_le hb y3
            rcases closB (w := 93) hN hb y3 93 rfl (by omega) with ⟨S5, T5, z1, z2, z3, z4, z5, z6⟩ | ⟨S5, T5, z1, z2, z3, z4, z5, z6, z7, z8⟩
            · rw [b2_s z1, if_neg n10, bd_s z2]
              exact Or.inl ⟨_, ops, S5, T5, rfl, rfl, z3, by omega, y5, (f4.tr y6).tr z5, (q4.tr y7).tr z6⟩
            · rw [b2_s z1, if_pos rfl, bd_s z2]
              exact Or.inr ⟨_, S5, T5, _, rfl, rfl, z4, z3, z5, z6, by omega, (f4.tr y6).tr z7, (q4.tr y7).tr z8⟩
          · rw [b2_s y1, if_pos rfl, bd_s y2]
            unfold fX12_closes fX12_closes_j20
            rw [y5, if_neg (nI_m1 (by omega)), lt_s9, lt_s9, bd_s rfl]
            refine Or.inr ⟨w, S2, _, c, rfl, rfl, y3, y4, ?_, ?_, y7, f4.tr y8, ((q4.tr y9).tr (FP.pj (by unfold lrM; omega))).tr (FP.pj (by unfold lrM; omega))⟩
            · rw [gi_ne (by decide), gi_ne (by decide)]
              exact y5
            · rw [pj_ne (by decide), pj_ne (by decide)]
              exact y6
        · have hd6' : dp = 6 := by omega
          subst hd6'
          obtain ⟨T5, z1, z2, z3⟩ := m_opens6 (N := N) g5 h4 hT
          rw [if_neg (show ¬ nI 6 < 6 by decide), bd_s z1, if_neg (show ¬ gi T5 52 4 = -1 by rw [z2]; exact nI_m1 (by omega))]
          exact Or.inr ⟨A, S3, T5, lc.length, rfl, rfl, hAn, hS, z2, by rw [z3.1 56 t (by omega)]; exact g3.1, by omega, FP.rf, z3.mono (fun k j q => by unfold lrM; omega)⟩
      · rw [if_neg c91, if_neg c91, if_pos rfl]
        exact badT
    · have c91 : ¬ ch n tp A = 91 := by
        rw [k4]
        intro z
        exact k3 ((nI_eq (b := 91) (by omega) (by omega)).mp z)
      have hlt : A < n := (ch_in k2 k4).1
      rw [if_neg c91, bd_s i1, bd_s i2, if_neg (nI_m1 (by omega)), if_neg (nI_m1 (by omega)), lt_s9, lt_s9, bd_s i2]
      have b4 := b3.step hlt
      obtain ⟨S5, T5, z1, z2, z3, z4, z5⟩ := LB.wr (N := N) hb ht b4 (by omega) (1, k)
      have e1 : (10000 : Int32) + nI k = stI (1, k) := nI_add 10000 k
      have z2' : fX12_put N (pj T3 52 3 (gi T3 52 3 + 1)) 1 (nI k) = some T5 := z2
      rw [e1, bd_s z1, bd_s z2']
      exact Or.inl ⟨A + 1, [(1, k)], S5, T5, rfl, rfl, z5, by simp, (num_l k1).mono hk, (FP.pj (Or.inl ⟨rfl, rfl⟩)).tr (z3.mono (fun k j => wrC_lr)), (FP.pj (by unfold lrM; omega)).tr (z4.mono (fun k j => puM_lr))⟩
  · rw [ifi1, ifi1]
    obtain ⟨S4, u1, u2, u3⟩ := c_sgn hN hb hC hS hAn
    rw [hss] at u1 u3
    have hC4 : tpC n tp S4 := hC.f u2 (by simp [atC]) (by simp [atC])
    obtain ⟨e, S2, z1, z2, z3, z4, z5, z6, z7⟩ := c_num_l (N := N) (q := 4) hb (by omega) 4 0 A 0 N S4 (by omega) (by omega) hC4 u3 hAn
    obtain ⟨e', T2, y1, y2, y3, y4, y7⟩ := m_pn_l (N := N) hb 4 0 A 0 N T3 (by omega) (by omega) hM hT hAn h4
    have hee : e' = e := by
      rcases Nat.lt_trichotomy e' e with q | q | q
      · exfalso
        have q1 := z4 e' y1 q
        rcases y7 with ⟨q2, _⟩ | ⟨_, q2, _⟩
        · rw [q1] at q2
          cases q2
        · omega
      · exact q
      · exfalso
        have q1 := y4 e z1 q
        rcases z7 with ⟨q2, _⟩ | ⟨_, q2, _⟩
        · rw [q1] at q2
          cases q2
        · omega
    subst hee
    have nEq : fX9_number N S3 4 = fX9_number_l9 N N (nI 4) (nI 0) (nI 0) S4 := by
      unfold fX9_number
      rw [b2_s u1]
      rfl
    have pEq : fX12_plainNumber N T3 = fX12_plainNumber_l4 N N (nI 0) (nI 0) T3 := rfl
    have fS : FP lrC S3 S2 := (u2.tr z5).mono (fun k j => atC_lr)
    unfold fX3_readNumber
    cases hde : dg n tp e'
    · have w2 : fX9_number_l9 N N (nI 4) (nI 0) (nI 0) S4 = fX9_number_j76 N (nI (nv tp 0 A (e' - A))) (nI (0 + (e' - A))) S2 := by
        rcases z7 with ⟨_, w2⟩ | ⟨w1, _⟩
        · exact w2
        · rw [hde] at w1
          cases w1
      have v2 : FP atM T3 T2 ∧ gi T2 52 3 = nI e' ∧ fX12_plainNumber_l4 N N (nI 0) (nI 0) T3 = some (T2, nI (nv tp 0 A (e' - A))) := by
        rcases y7 with ⟨_, w2⟩ | ⟨w1, _⟩
        · exact w2
        · rw [hde] at w1
          cases w1
      have hlt : A < e' := by
        rcases Nat.lt_or_eq_of_le y1 with q | q
        · exact q
        · rw [← q, hdg] at hde
          cases hde
      have hv := nv_lt (n := n) (tp := tp) (e' - A) 0 A (fun i h1 h2 => z4 i h1 (by omega))
      have hv2 : nv tp 0 A (e' - A) ≤ 9999 := by
        have q : 10 ^ (e' - A) ≤ 10 ^ 4 := Nat.pow_le_pow_right (by omega) (by omega)
        omega
      have e1 : fX9_number N S3 4 = some (S2, nI (nv tp 0 A (e' - A))) := by
        rw [nEq, w2]
        unfold fX9_number_j76
        rw [if_neg (nI_ne0 (by omega) (by omega))]
      rw [b2_s e1, if_neg (nI_m1 (by omega)), pEq, b2_s v2.2.2]
      have b4 : LB n tp t e' ls lc dp S2 T2 := ⟨⟨hC4.f z5 (by simp [atC]) (by simp [atC]), hM.f v2.1 (by simp [atM]) (by simp [atM]), z6, v2.2.1, (v2.1.gi (by simp [atM])).trans h4, y3⟩, g2.f (u2.tr z5) (by simp [atC]) (by simp [atC]), g3.f v2.1 (fun k j q => q.1), (v2.1.gi (by simp [atM])).trans g4, (v2.1.gi (by simp [atM])).trans g5, by omega, g7, by omega⟩
      obtain ⟨S5, T5, x1, x2, x3, x4, x5⟩ := LB.wr (N := N) hb ht b4 (by omega) (0, nv tp 0 A (e' - A))
      have x1' : fX3_write N S2 (nI (nv tp 0 A (e' - A))) = some S5 := x1
      have x2' : fX12_put N T2 0 (nI (nv tp 0 A (e' - A))) = some T5 := x2
      rw [bd_s x1', bd_s x2', b2_s rfl]
      exact Or.inl ⟨e', [(0, nv tp 0 A (e' - A))], S5, T5, rfl, rfl, x5, by simp; omega, (num_n hv2).mono hk, fS.tr (x3.mono (fun k j => wrC_lr)), (v2.1.mono (fun k j => atM_lr)).tr (x4.mono (fun k j => puM_lr))⟩
    · have w3 : fX9_number_l9 N N (nI 4) (nI 0) (nI 0) S4 = some (S2, -1) := by
        rcases z7 with ⟨w1, _⟩ | ⟨_, _, w3⟩
        · rw [hde] at w1
          cases w1
        · exact w3
      have v2 : FP wrM T3 T2 ∧ gi T2 52 4 = nI e' ∧ ∃ r, fX12_plainNumber_l4 N N (nI 0) (nI 0) T3 = some (T2, r) := by
        rcases y7 with ⟨w1, _⟩ | ⟨_, _, w3⟩
        · rw [hde] at w1
          cases w1
        · exact w3
      obtain ⟨v3, v4, r, v5⟩ := v2
      have e1 : fX9_number N S3 4 = some (S2, -1) := by rw [nEq, w3]
      rw [b2_s e1, if_pos rfl, pEq, b2_s v5, b2_s rfl]
      obtain ⟨T5, x1, x2, x3, x4, x5⟩ := m_putB (N := N) (x := 0) (y := r) ht ((v3.gi (by simp [wrM])).trans g4) ((v3.1 56 t (by simp [wrM])).trans g3.1) (by omega) v4
      rw [bd_s x1]
      exact Or.inr ⟨e', S2, T5, _, rfl, rfl, y3, z6, x3, x2, by omega, fS, (v3.mono (fun k j => wrM_lr)).tr (x5.mono (fun k j => puM_lr))⟩
theorem x_termL {n N t dp kA uA : Nat} {tp : Nat → Nat} {recC : SS → Int32 → Option (SS × Int32)} {recM : SS → Option SS} (hN : 250 ≤ N) (hb : tpB n tp) (ht : t ≤ 4) (hu2 : uA ≤ 100)
    (hat : ∀ a ls lc S T, LB n tp t a ls lc dp S T → Res n tp t a ls lc dp (Num kA) uA S T (fX3_readAtom N recC S (nI dp)) (fX12_atom N recM T)) :
    ∀ (f i a : Nat) (ls : List Int32) (lc : List (Nat × Nat)) (S T : SS), LB n tp t a ls lc dp S T → i < a → n - a < f → Res n tp t a ls lc dp (fun ops => ∀ o0, Num (kA + 1) o0 → Num (kA + 1) (o0 ++ ops)) (uA + 1) S T (fX3_readTerm_l12 N recC f (nI dp) (nI i) S) (b2 (fX12_look N T) fun T7 r6 => fX12_term_l21 N recM f r6 T7) := by
  have hn := hb.1
  intro f
  induction f with
  | zero =>
    intro i a ls lc S T h hi hf
    omega
  | succ f ih =>
    intro i a ls lc S T h hi hf
    have han := h.1.2.2.2.2.2
    obtain ⟨S4, T4, s1, t1, s2, t2, b4, hA⟩ := h.look hN hb
    refine Res.pre ?_ hA (s2.mono (fun k j => atC_lr)) (t2.mono (fun k j => atM_lr))
    have xC : fX3_readTerm_l12 N recC (f + 1) (nI dp) (nI i) S = (if ch n tp (sk n tp a) = 42 then fX3_readTerm_j41 N recC (fX3_readTerm_l12 N recC f) (nI dp) (nI i) (ch n tp (sk n tp a)) S4 else (if ch n tp (sk n tp a) = 47 then fX3_readTerm_j41 N recC (fX3_readTerm_l12 N recC f) (nI dp) (nI i) (ch n tp (sk n tp a)) S4 else some (S4, 1))) := by
      show (if 240 ≤ nI i then _ else _) = _
      rw [if_neg (show ¬ (240 : Int32) ≤ nI i from nI_ge (b := 240) (by omega) (by omega)), b2_s s1]
    have xM : (b2 (fX12_look N T) fun T7 r6 => fX12_term_l21 N recM (f + 1) r6 T7) = (if ch n tp (sk n tp a) = 42 then fX12_term_j33 N recM (fX12_term_l21 N recM f) (ch n tp (sk n tp a)) T4 else (if ch n tp (sk n tp a) = 47 then fX12_term_j33 N recM (fX12_term_l21 N recM f) (ch n tp (sk n tp a)) T4 else some T4)) := by
      rw [b2_s t1]
      rfl
    rw [xC, xM]
    generalize sk n tp a = A at *
    have go : ∀ (x3 : Int32) (c : Nat) (yC yM : Int32), (c = 4 ∨ c = 5) → stI (c, 0) = yC → nI c = yM → A < n → (∀ S', (if x3 = 42 then fX3_readTerm_j80 N recC (fX3_readTerm_l12 N recC f) (nI dp) (nI i) 10012 S' else fX3_readTerm_j80 N recC (fX3_readTerm_l12 N recC f) (nI dp) (nI i) 10013 S') = fX3_readTerm_j80 N recC (fX3_readTerm_l12 N recC f) (nI dp) (nI i) yC S') → (∀ T', (if x3 = 42 then fX12_term_j59 N recM (fX12_term_l21 N recM f) 4 T' else fX12_term_j59 N recM (fX12_term_l21 N recM f) 5 T') = fX12_term_j59 N recM (fX12_term_l21 N recM f) yM T') → Res n tp t A ls lc dp (fun ops => ∀ o0, Num (kA + 1) o0 → Num (kA + 1) (o0 ++ ops)) (uA + 1) S4 T4 (fX3_readTerm_j41 N recC (fX3_readTerm_l12 N recC f) (nI dp) (nI i) x3 S4) (fX12_term_j33 N recM (fX12_term_l21 N recM f) x3 T4) := fun x3 c yC yM hc hyC hyM hlt eC eM => by
      have b5 := b4.step hlt
      have f5 : FP lrC S4 (pj S4 1 2 (gi S4 1 2 + 1)) := FP.pj (Or.inl ⟨rfl, rfl⟩)
      have q5 : FP (lrM t) T4 (pj T4 52 3 (gi T4 52 3 + 1)) := FP.pj (by unfold lrM; omega)
      have g6 := b4.2.2.2.2.2.1
      unfold fX3_readTerm_j41 fX12_term_j33
      rw [lt_s9, lt_s9]
      rcases hat _ _ _ _ _ b5 with ⟨a1, ops, S2, T2, y1, y2, y3, y4, y5, y6, y7⟩ | ⟨w, S2, T2, c', y1, y2, y3, y4, y5, y6, y7, y8, y9⟩
      · rw [b2_s y1, bd_s y2, if_neg n10, eC, eM]
        have hl : (ls ++ ops.map stI).length < a1 := by
          rw [List.length_append, List.length_map]
          omega
        obtain ⟨S6, T6, z1, z2, z3, z4, z5⟩ := LB.wr (N := N) hb ht y3 hl (c, 0)
        rw [hyC] at z1
        have z2' : fX12_put N T2 yM 0 = some T6 := by
          rw [← hyM]
          exact z2
        unfold fX3_readTerm_j80 fX12_term_j59
        rw [bd_s z1, bd_s z2', lt_s9, nI_1, if_pos z5.1.2.2.2.2.1]
        have r := ih (i + 1) a1 _ _ S6 T6 z5 (by omega) (by omega)
        have e1 : ls ++ ops.map stI ++ [stI (c, 0)] = ls ++ (ops ++ [(c, 0)]).map stI := by
          rw [List.map_append, List.append_assoc]
          rfl
        have e2 : lc ++ ops ++ [(c, 0)] = lc ++ (ops ++ [(c, 0)]) := List.append_assoc ..
        rw [e1, e2] at r
        refine r.app (by rw [List.length_append]; simp; omega) (fun o ho o0 h0 => ?_) ((f5.tr y6).tr (z3.mono (fun k j => wrC_lr))) ((q5.tr y7).tr (z4.mono (fun k j => puM_lr)))
        rw [← List.append_assoc]
        exact ho _ (num_bin h0 y5 (by omega) (by omega) (by omega) (by omega))
      · rw [b2_s y1, bd_s y2, if_pos rfl, eM]
        have g14 : gi T2 52 14 = nI t := (y9.gi (by unfold lrM; omega)).trans b5.2.2.2.1
        obtain ⟨T6, x1, x2, x3', x4, x5⟩ := m_putB (N := N) (x := yM) (y := 0) ht g14 y6 (by omega) y5
        unfold fX12_term_j59
        rw [bd_s x1, if_neg (show ¬ gi T6 52 4 = -1 by rw [x3']; exact nI_m1 (by omega)), lt_s9]
        obtain ⟨f, rfl⟩ : ∃ q, f = q + 1 := ⟨f - 1, by omega⟩
        exact Or.inr ⟨w, S2, T6, _, rfl, rfl, y3, y4, x3', x2, by omega, f5.tr y8, (q5.tr y9).tr (x5.mono (fun k j => puM_lr))⟩
    by_cases c1 : ch n tp A = 42
    · rw [if_pos c1, if_pos c1]
      exact go (ch n tp A) 4 10012 4 (Or.inl rfl) rfl rfl (ch_in (v := 42) (by omega) c1).1 (fun S' => if_pos c1) (fun T' => if_pos c1)
    · rw [if_neg c1, if_neg c1]
      by_cases c2 : ch n tp A = 47
      · rw [if_pos c2, if_pos c2]
        exact go (ch n tp A) 5 10013 5 (Or.inr rfl) rfl rfl (ch_in (v := 47) (by omega) c2).1 (fun S' => if_neg c1) (fun T' => if_neg c1)
      · rw [if_neg c2, if_neg c2]
        refine Or.inl ⟨A, [], S4, T4, rfl, rfl, ?_, by simp, fun o0 h0 => ?_, FP.rf, FP.rf⟩
        · rw [List.map_nil, List.append_nil, List.append_nil]
          exact b4
        · rw [List.append_nil]
          exact h0
theorem x_term {n N t dp kA uA a : Nat} {tp : Nat → Nat} {recC : SS → Int32 → Option (SS × Int32)} {recM : SS → Option SS} {ls : List Int32} {lc : List (Nat × Nat)} {S T : SS} (hN : 250 ≤ N) (hb : tpB n tp) (ht : t ≤ 4) (hu2 : uA ≤ 100)
    (hat : ∀ a ls lc S T, LB n tp t a ls lc dp S T → Res n tp t a ls lc dp (Num kA) uA S T (fX3_readAtom N recC S (nI dp)) (fX12_atom N recM T)) (h : LB n tp t a ls lc dp S T) : Res n tp t a ls lc dp (Num (kA + 1)) (uA + 1) S T (fX3_readTerm N recC S (nI dp)) (fX12_term N recM T) := by
  have hn := hb.1
  unfold fX3_readTerm fX12_term
  rcases hat _ _ _ _ _ h with ⟨a1, ops, S2, T2, y1, y2, y3, y4, y5, y6, y7⟩ | ⟨w, S2, T2, c', y1, y2, y3, y4, y5, y6, y7, y8, y9⟩
  · rw [b2_s y1, bd_s y2, if_neg n10, if_pos y3.1.2.2.2.2.1]
    have r := x_termL hN hb ht hu2 hat N 0 a1 _ _ S2 T2 y3 y3.2.2.2.2.2.2.2 (by omega)
    exact r.app y4 (fun o ho => ho ops (y5.mono (by omega))) y6 y7
  · obtain ⟨M, rfl⟩ : ∃ q, N = q + 1 := ⟨N - 1, by omega⟩
    rw [b2_s y1, bd_s y2, if_pos rfl, if_neg (show ¬ gi T2 52 4 = -1 by rw [y5]; exact nI_m1 (by omega)), lt_s9]
    exact Or.inr ⟨w, S2, T2, c', rfl, rfl, y3, y4, y5, y6, by omega, y8, y9⟩
theorem x_sumL {n N t dp kA uA : Nat} {tp : Nat → Nat} {recC : SS → Int32 → Option (SS × Int32)} {recM : SS → Option SS} (hN : 250 ≤ N) (hb : tpB n tp) (ht : t ≤ 4) (hu2 : uA ≤ 100)
    (hat : ∀ a ls lc S T, LB n tp t a ls lc dp S T → Res n tp t a ls lc dp (Num kA) uA S T (fX3_readTerm N recC S (nI dp)) (fX12_term N recM T)) :
    ∀ (f i a : Nat) (ls : List Int32) (lc : List (Nat × Nat)) (S T : SS), LB n tp t a ls lc dp S T → i < a → n - a < f → Res n tp t a ls lc dp (fun ops => ∀ o0, Num (kA + 1) o0 → Num (kA + 1) (o0 ++ ops)) (uA + 1) S T (fX3_readSum_l12 N recC f (nI dp) (nI i) S) (b2 (fX12_look N T) fun T7 r6 => fX12_sum_l21 N recM f r6 T7) := by
  have hn := hb.1
  intro f
  induction f with
  | zero =>
    intro i a ls lc S T h hi hf
    omega
  | succ f ih =>
    intro i a ls lc S T h hi hf
    have han := h.1.2.2.2.2.2
    obtain ⟨S4, T4, s1, t1, s2, t2, b4, hA⟩ := h.look hN hb
    refine Res.pre ?_ hA (s2.mono (fun k j => atC_lr)) (t2.mono (fun k j => atM_lr))
    have xC : fX3_readSum_l12 N recC (f + 1) (nI dp) (nI i) S = (if ch n tp (sk n tp a) = 43 then fX3_readSum_j41 N recC (fX3_readSum_l12 N recC f) (nI dp) (nI i) (ch n tp (sk n tp a)) S4 else (if ch n tp (sk n tp a) = 45 then fX3_readSum_j41 N recC (fX3_readSum_l12 N recC f) (nI dp) (nI i) (ch n tp (sk n tp a)) S4 else some (S4, 1))) := by
      show (if 240 ≤ nI i then _ else _) = _
      rw [if_neg (show ¬ (240 : Int32) ≤ nI i from nI_ge (b := 240) (by omega) (by omega)), b2_s s1]
    have xM : (b2 (fX12_look N T) fun T7 r6 => fX12_sum_l21 N recM (f + 1) r6 T7) = (if ch n tp (sk n tp a) = 43 then fX12_sum_j33 N recM (fX12_sum_l21 N recM f) (ch n tp (sk n tp a)) T4 else (if ch n tp (sk n tp a) = 45 then fX12_sum_j33 N recM (fX12_sum_l21 N recM f) (ch n tp (sk n tp a)) T4 else some T4)) := by
      rw [b2_s t1]
      rfl
    rw [xC, xM]
    generalize sk n tp a = A at *
    have go : ∀ (x3 : Int32) (c : Nat) (yC yM : Int32), (c = 2 ∨ c = 3) → stI (c, 0) = yC → nI c = yM → A < n → (∀ S', (if x3 = 43 then fX3_readSum_j80 N recC (fX3_readSum_l12 N recC f) (nI dp) (nI i) 10010 S' else fX3_readSum_j80 N recC (fX3_readSum_l12 N recC f) (nI dp) (nI i) 10011 S') = fX3_readSum_j80 N recC (fX3_readSum_l12 N recC f) (nI dp) (nI i) yC S') → (∀ T', (if x3 = 43 then fX12_sum_j59 N recM (fX12_sum_l21 N recM f) 2 T' else fX12_sum_j59 N recM (fX12_sum_l21 N recM f) 3 T') = fX12_sum_j59 N recM (fX12_sum_l21 N recM f) yM T') → Res n tp t A ls lc dp (fun ops => ∀ o0, Num (kA + 1) o0 → Num (kA + 1) (o0 ++ ops)) (uA + 1) S4 T4 (fX3_readSum_j41 N recC (fX3_readSum_l12 N recC f) (nI dp) (nI i) x3 S4) (fX12_sum_j33 N recM (fX12_sum_l21 N recM f) x3 T4) := fun x3 c yC yM hc hyC hyM hlt eC eM => by
      have b5 := b4.step hlt
      have f5 : FP lrC S4 (pj S4 1 2 (gi S4 1 2 + 1)) := FP.pj (Or.inl ⟨rfl, rfl⟩)
      have q5 : FP (lrM t) T4 (pj T4 52 3 (gi T4 52 3 + 1)) := FP.pj (by unfold lrM; omega)
      have g6 := b4.2.2.2.2.2.1
      unfold fX3_readSum_j41 fX12_sum_j33
      rw [lt_s9, lt_s9]
      rcases hat _ _ _ _ _ b5 with ⟨a1, ops, S2, T2, y1, y2, y3, y4, y5, y6, y7⟩ | ⟨w, S2, T2, c', y1, y2, y3, y4, y5, y6, y7, y8, y9⟩
      · rw [b2_s y1, bd_s y2, if_neg n10, eC, eM]
        have hl : (ls ++ ops.map stI).length < a1 := by
          rw [List.length_append, List.length_map]
          omega
        obtain ⟨S6, T6, z1, z2, z3, z4, z5⟩ := LB.wr (N := N) hb ht y3 hl (c, 0)
        rw [hyC] at z1
        have z2' : fX12_put N T2 yM 0 = some T6 := by
          rw [← hyM]
          exact z2
        unfold fX3_readSum_j80 fX12_sum_j59
        rw [bd_s z1, bd_s z2', lt_s9, nI_1, if_pos z5.1.2.2.2.2.1]
        have r := ih (i + 1) a1 _ _ S6 T6 z5 (by omega) (by omega)
        have e1 : ls ++ ops.map stI ++ [stI (c, 0)] = ls ++ (ops ++ [(c, 0)]).map stI := by
          rw [List.map_append, List.append_assoc]
          rfl
        have e2 : lc ++ ops ++ [(c, 0)] = lc ++ (ops ++ [(c, 0)]) := List.append_assoc ..
        rw [e1, e2] at r
        refine r.app (by rw [List.length_append]; simp; omega) (fun o ho o0 h0 => ?_) ((f5.tr y6).tr (z3.mono (fun k j => wrC_lr))) ((q5.tr y7).tr (z4.mono (fun k j => puM_lr)))
        rw [← List.append_assoc]
        exact ho _ (num_bin h0 y5 (by omega) (by omega) (by omega) (by omega))
      · rw [b2_s y1, bd_s y2, if_pos rfl, eM]
        have g14 : gi T2 52 14 = nI t := (y9.gi (by unfold lrM; omega)).trans b5.2.2.2.1
        obtain ⟨T6, x1, x2, x3', x4, x5⟩ := m_putB (N := N) (x := yM) (y := 0) ht g14 y6 (by omega) y5
        unfold fX12_sum_j59
        rw [bd_s x1, if_neg (show ¬ gi T6 52 4 = -1 by rw [x3']; exact nI_m1 (by omega)), lt_s9]
        obtain ⟨f, rfl⟩ : ∃ q, f = q + 1 := ⟨f - 1, by omega⟩
        exact Or.inr ⟨w, S2, T6, _, rfl, rfl, y3, y4, x3', x2, by omega, f5.tr y8, (q5.tr y9).tr (x5.mono (fun k j => puM_lr))⟩
    by_cases c1 : ch n tp A = 43
    · rw [if_pos c1, if_pos c1]
      exact go (ch n tp A) 2 10010 2 (Or.inl rfl) rfl rfl (ch_in (v := 43) (by omega) c1).1 (fun S' => if_pos c1) (fun T' => if_pos c1)
    · rw [if_neg c1, if_neg c1]
      by_cases c2 : ch n tp A = 45
      · rw [if_pos c2, if_pos c2]
        exact go (ch n tp A) 3 10011 3 (Or.inr rfl) rfl rfl (ch_in (v := 45) (by omega) c2).1 (fun S' => if_neg c1) (fun T' => if_neg c1)
      · rw [if_neg c2, if_neg c2]
        refine Or.inl ⟨A, [], S4, T4, rfl, rfl, ?_, by simp, fun o0 h0 => ?_, FP.rf, FP.rf⟩
        · rw [List.map_nil, List.append_nil, List.append_nil]
          exact b4
        · rw [List.append_nil]
          exact h0
theorem x_sumb {n N t dp kA uA a : Nat} {tp : Nat → Nat} {recC : SS → Int32 → Option (SS × Int32)} {recM : SS → Option SS} {ls : List Int32} {lc : List (Nat × Nat)} {S T : SS} (hN : 250 ≤ N) (hb : tpB n tp) (ht : t ≤ 4) (hu2 : uA ≤ 100)
    (hat : ∀ a ls lc S T, LB n tp t a ls lc dp S T → Res n tp t a ls lc dp (Num kA) uA S T (fX3_readTerm N recC S (nI dp)) (fX12_term N recM T)) (h : LB n tp t a ls lc dp S T) : Res n tp t a ls lc dp (Num (kA + 1)) (uA + 1) S T (fX3_readSum_b N recC S (nI dp)) (fX12_sum_b N recM T) := by
  have hn := hb.1
  unfold fX3_readSum_b fX12_sum_b
  rcases hat _ _ _ _ _ h with ⟨a1, ops, S2, T2, y1, y2, y3, y4, y5, y6, y7⟩ | ⟨w, S2, T2, c', y1, y2, y3, y4, y5, y6, y7, y8, y9⟩
  · rw [b2_s y1, bd_s y2, if_neg n10, if_pos y3.1.2.2.2.2.1]
    have r := x_sumL hN hb ht hu2 hat N 0 a1 _ _ S2 T2 y3 y3.2.2.2.2.2.2.2 (by omega)
    exact r.app y4 (fun o ho => ho ops (y5.mono (by omega))) y6 y7
  · obtain ⟨M, rfl⟩ : ∃ q, N = q + 1 := ⟨N - 1, by omega⟩
    rw [b2_s y1, bd_s y2, if_pos rfl, if_neg (show ¬ gi T2 52 4 = -1 by rw [y5]; exact nI_m1 (by omega)), lt_s9]
    exact Or.inr ⟨w, S2, T2, c', rfl, rfl, y3, y4, y5, y6, by omega, y8, y9⟩
theorem x_sum {n N t : Nat} {tp : Nat → Nat} (hN : 250 ≤ N) (hb : tpB n tp) (ht : t ≤ 4) : ∀ (d dp a : Nat) (ls : List Int32) (lc : List (Nat × Nat)) (S T : SS), dp ≤ 6 → 6 - dp < d → LB n tp t a ls lc dp S T → Res n tp t a ls lc dp (Num (15 - 2 * dp)) (15 - 2 * dp) S T (fX3_readSum N d S (nI dp)) (fX12_sum N d T) := by
  intro d
  induction d with
  | zero =>
    intro dp a ls lc S T hd hf
    omega
  | succ d ih =>
    intro dp a ls lc S T hd hf h
    have r := x_sumb (kA := 13 - 2 * dp + 1) (uA := 13 - 2 * dp + 1) (recC := fX3_readSum N d) (recM := fX12_sum N d) hN hb ht (by omega) (fun a ls lc S T h => x_term (kA := 13 - 2 * dp) (uA := 13 - 2 * dp) hN hb ht (by omega) (fun a ls lc S T h => x_atom hN hb ht hd (by omega) (by omega) (by omega) (fun hd6 a ls lc S T h => by
      have := ih (dp + 1) a ls lc S T (by omega) (by omega) h
      rw [show 15 - 2 * (dp + 1) = 13 - 2 * dp by omega] at this
      exact this) h) h) h
    rw [show 13 - 2 * dp + 1 + 1 = 15 - 2 * dp by omega] at r
    exact r
