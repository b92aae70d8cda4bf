/-! numbers on the tape -/
def nv (tp : Nat → Nat) : Nat → Nat → Nat → Nat
  | v, _, 0 => v
  | v, a, j + 1 => nv tp (10 * v + (tp a - 48)) (a + 1) j
theorem c_num_l {n N q : Nat} {tp : Nat → Nat} (hb : tpB n tp) (hq : q < 100) : ∀ (j k a v f : Nat) (S : SS), k + j = q → j < f → tpC n tp S → gi S 1 2 = nI a → a ≤ n → ∃ e S2, a ≤ e ∧ e ≤ a + j ∧ e ≤ n ∧ (∀ i, a ≤ i → i < e → dg n tp i = true) ∧ FP atC S S2 ∧ gi S2 1 2 = nI e ∧ ((dg n tp e = false ∧ fX9_number_l9 N f (nI q) (nI v) (nI k) S = fX9_number_j76 N (nI (nv tp v a (e - a))) (nI (k + (e - a))) S2) ∨ (dg n tp e = true ∧ e = a + j ∧ fX9_number_l9 N f (nI q) (nI v) (nI k) S = some (S2, -1))) := by
  intro j
  induction j with
  | zero =>
    intro k a v f S hk hf hC ha hn
    obtain ⟨f, rfl⟩ : ∃ y, f = y + 1 := ⟨f - 1, by omega⟩
    refine ⟨a, S, Nat.le_refl _, by omega, hn, fun i h1 h2 => by omega, FP.rf, ha, ?_⟩
    cases hd : dg n tp a
    · left
      refine ⟨rfl, ?_⟩
      rw [c_num_no hb hC ha hn hd, Nat.sub_self]
      rfl
    · right
      refine ⟨rfl, rfl, ?_⟩
      rw [c_num_yes hb hC ha hd, if_pos (by rw [show k = q by omega])]
  | succ j ih =>
    intro k a v f S hk hf hC ha hn
    obtain ⟨f, rfl⟩ : ∃ y, f = y + 1 := ⟨f - 1, by omega⟩
    cases hd : dg n tp a
    · refine ⟨a, S, Nat.le_refl _, by omega, hn, fun i h1 h2 => by omega, FP.rf, ha, Or.inl ⟨hd, ?_⟩⟩
      rw [c_num_no hb hC ha hn hd, Nat.sub_self]
      rfl
    · have hlt := (dg_ex hd).1
      obtain ⟨p1, p2, p3⟩ := pjC (a := a + 1) hC
      obtain ⟨e, S2, z1, z2, z3, z4, z5, z6, z7⟩ := ih (k + 1) (a + 1) (10 * v + (tp a - 48)) f (pj S 1 2 (nI (a + 1))) (by omega) (by omega) p1 p2 hlt
      refine ⟨e, S2, by omega, by omega, z3, fun i h1 h2 => ?_, p3.tr z5, z6, ?_⟩
      · by_cases q : i = a
        · rw [q]
          exact hd
        · exact z4 i (by omega) h2
      · rw [c_num_yes hb hC ha hd, if_neg (fun z => by
          have := (nI_eq (by omega) (by omega)).mp z
          omega), nI_1]
        rcases z7 with ⟨w1, w2⟩ | ⟨w1, w2, w3⟩
        · left
          refine ⟨w1, ?_⟩
          rw [w2, show k + 1 + (e - (a + 1)) = k + (e - a) by omega, show e - a = (e - (a + 1)) + 1 by omega]
          rfl
        · exact Or.inr ⟨w1, by omega, w3⟩
theorem m_pn_l {n N : Nat} {tp : Nat → Nat} (hb : tpB n tp) : ∀ (j k a v f : Nat) (T : SS), k + j = 4 → j < f → tpM n tp T → gi T 52 3 = nI a → a ≤ n → gi T 52 4 = -1 → ∃ e T2, a ≤ e ∧ e ≤ a + j ∧ e ≤ n ∧ (∀ i, a ≤ i → i < e → dg n tp i = true) ∧ ((dg n tp e = false ∧ FP atM T T2 ∧ gi T2 52 3 = nI e ∧ fX12_plainNumber_l4 N f (nI v) (nI k) T = some (T2, nI (nv tp v a (e - a)))) ∨ (dg n tp e = true ∧ e = a + j ∧ FP wrM T T2 ∧ gi T2 52 4 = nI e ∧ ∃ r, fX12_plainNumber_l4 N f (nI v) (nI k) T = some (T2, r))) := by
  have hn2 := hb.1
  have fin : ∀ (a v : Nat) (T : SS), tpM n tp T → gi T 52 3 = nI a → a ≤ n → gi T 52 4 = -1 → ∃ T2, ((dg n tp a = false ∧ FP atM T T2 ∧ gi T2 52 3 = nI a ∧ fX12_plainNumber_j48 N (nI v) T = some (T2, nI v)) ∨ (dg n tp a = true ∧ FP wrM T T2 ∧ gi T2 52 4 = nI a ∧ ∃ r, fX12_plainNumber_j48 N (nI v) T = some (T2, r))) := fun a v T hC ha hn h4 => by
    unfold fX12_plainNumber_j48
    rw [bd_s (m_here hb hC ha (by omega)), bd_s (dgC hb).2]
    cases hd : dg n tp a
    · rw [ifi0]
      exact ⟨T, Or.inl ⟨rfl, FP.rf, ha, rfl⟩⟩
    · rw [ifi1, bd_s (m_bad1 h4), ha]
      exact ⟨_, Or.inr ⟨rfl, FP.pj ⟨rfl, Or.inr rfl⟩, by rw [gi_pj]; rfl, _, rfl⟩⟩
  intro j
  induction j with
  | zero =>
    intro k a v f T hk hf hC ha hn h4
    obtain ⟨f, rfl⟩ : ∃ y, f = y + 1 := ⟨f - 1, by omega⟩
    have hk4 : k = 4 := by omega
    subst hk4
    unfold fX12_plainNumber_l4
    rw [if_pos (show (4 : Int32) ≤ nI 4 by decide)]
    obtain ⟨T2, z⟩ := fin a v T hC ha hn h4
    refine ⟨a, T2, Nat.le_refl _, by omega, hn, fun i h1 h2 => by omega, ?_⟩
    rcases z with ⟨w1, w2, w3, w4⟩ | ⟨w1, w2, w3, w4⟩
    · left
      refine ⟨w1, w2, w3, ?_⟩
      rw [Nat.sub_self]
      exact w4
    · exact Or.inr ⟨w1, rfl, w2, w3, w4⟩
  | succ j ih =>
    intro k a v f T hk hf hC ha hn h4
    obtain ⟨f, rfl⟩ : ∃ y, f = y + 1 := ⟨f - 1, by omega⟩
    unfold fX12_plainNumber_l4
    rw [if_neg (show ¬ (4 : Int32) ≤ nI k from nI_ge (b := 4) (by omega) (by omega)), bd_s (m_here hb hC ha (by omega)), bd_s (dgC hb).2, bd_s (m_here hb hC ha (by omega))]
    cases hd : dg n tp a
    · rw [ifi0]
      obtain ⟨T2, z⟩ := fin a v T hC ha hn h4
      refine ⟨a, T2, Nat.le_refl _, by omega, hn, fun i h1 h2 => by omega, Or.inl ?_⟩
      rcases z with ⟨w1, w2, w3, w4⟩ | ⟨w1, w2, w3, w4⟩
      · refine ⟨hd, w2, w3, ?_⟩
        rw [Nat.sub_self]
        exact w4
      · rw [hd] at w1
        cases w1
    · obtain ⟨hlt, h48, h57⟩ := dg_ex hd
      have ec : ch n tp a = nI (tp a) := by
        unfold ch
        rw [if_pos hlt]
      rw [ifi1, ec, (dg_nI h48).2, ha]
      simp only [lt_s9, nI_1]
      obtain ⟨p1, p2, p3⟩ := pjM (a := a + 1) hC
      obtain ⟨e, T2, z1, z2, z3, z4, z7⟩ := ih (k + 1) (a + 1) (10 * v + (tp a - 48)) f (pj T 52 3 (nI (a + 1))) (by omega) (by omega) p1 p2 hlt ((p3.gi (by simp [atM])).trans h4)
      refine ⟨e, T2, by omega, by omega, z3, fun i h1 h2 => ?_, ?_⟩
      · by_cases q : i = a
        · rw [q]
          exact hd
        · exact z4 i (by omega) h2
      · rcases z7 with ⟨w1, w2, w3, w4⟩ | ⟨w1, w2, w3, w4, w5⟩
        · left
          refine ⟨w1, p3.tr w2, w3, ?_⟩
          rw [w4, show e - a = (e - (a + 1)) + 1 by omega]
          rfl
        · exact Or.inr ⟨w1, by omega, (p3.mono (fun k j h => ⟨h.1, Or.inl h.2⟩)).tr w3, w4, w5⟩
/-- a number of one or two digits and its bounds -/
theorem num2 {n N a it lo hi : Nat} {tp : Nat → Nat} {S T : SS} (hN : 250 ≤ N) (hb : tpB n tp) (h : Bt n tp a S T) (hit : it < 7) (hlo : vLs it = nI lo) (hhi : vMs it = nI hi) (hl9 : lo ≤ 9) (hh : hi ≤ 99) :
    (∃ v e S3 T3, lo ≤ v ∧ v ≤ hi ∧ fX6_readNumber N S (nI it) = (bd (fX6_write N S3 (nI it) (nI v)) fun S13 => some (S13, 1)) ∧ fX12_number N T (nI lo) (nI hi) = some (T3, nI v) ∧ FP atC S S3 ∧ FP atM T T3 ∧ Bt n tp e S3 T3 ∧ a < e) ∨
    (∃ w S3 T3 r, w ≤ n ∧ fX6_readNumber N S (nI it) = some (S3, 0) ∧ fX12_number N T (nI lo) (nI hi) = some (T3, r) ∧ FP atC S S3 ∧ FP wrM T T3 ∧ gi S3 1 2 = nI w ∧ gi T3 52 4 = nI w) := by
  have hn2 := hb.1
  have am : ∀ k j, atM k j → wrM k j := fun k j h => ⟨h.1, Or.inl h.2⟩
  obtain ⟨S1, T1, s1, t1, fs1, ft1, b1⟩ := h.look hN hb
  have hsk := sk_le (tp := tp) h.2.2.2.2.2
  generalize sk n tp a = A at *
  obtain ⟨hC, hM, hS, hT, h4, hAn⟩ := b1
  obtain ⟨e, S2, z1, z2, z3, z4, z5, z6, z7⟩ := c_num_l (N := N) (q := 2) hb (by omega) 2 0 A 0 N S1 (by omega) (by omega) hC hS hAn
  have hC2 : tpC n tp S2 := hC.f z5 (by simp [atC]) (by simp [atC])
  have fs2 : FP atC S S2 := fs1.tr z5
  have nEq : fX9_number N S 2 = fX9_number_l9 N N (nI 2) (nI 0) (nI 0) S1 := by
    unfold fX9_number
    rw [b2_s s1]
    rfl
  have hM1 : ∀ (T' : SS) (x : Nat), tpM n tp T' → gi T' 52 3 = nI x → x ≤ n → fX12_here N T' = some (ch n tp x) := fun T' x h1 h2 h3 => m_here hb h1 h2 (by omega)
  have inE : ∀ v, v ≤ 99 → fX12_in N (nI v) (nI lo) (nI hi) = some (i01 (decide (lo ≤ v ∧ v ≤ hi))) := fun v hv => by
    unfold fX12_in
    by_cases c1 : v < lo
    · rw [if_pos (nI_lt c1 (by omega))]
      have : ¬ (lo ≤ v ∧ v ≤ hi) := by omega
      simp [this, i01]
    · rw [if_neg (nI_nlt (by omega) (by omega))]
      by_cases c2 : hi < v
      · rw [if_pos (nI_lt c2 (by omega))]
        have : ¬ (lo ≤ v ∧ v ≤ hi) := by omega
        simp [this, i01]
      · rw [if_neg (nI_nlt (by omega) (by omega))]
        have : lo ≤ v ∧ v ≤ hi := by omega
        simp [this, i01]
  have cT : ∀ v, v ≤ 99 → fX9_number N S 2 = some (S2, nI v) → fX6_readNumber N S (nI it) = (if lo ≤ v ∧ v ≤ hi then (bd (fX6_write N S2 (nI it) (nI v)) fun S13 => some (S13, 1)) else some (pj S2 1 2 (nI e - 1), 0)) := fun v hv hE => by
    unfold fX6_readNumber
    rw [b2_s hE, if_neg (nI_m1 (by omega)), if_neg (nI_pos (by omega)), if_pos (show nI it < 7 from nI_lt (b := 7) hit (by omega)), ck_in hit (by omega), ck_in hit (by omega), nI_clamp (by omega), hlo, hhi, lt_s9, z6]
    by_cases c1 : v < lo
    · rw [if_pos (nI_lt c1 (by omega)), if_neg (by omega)]
    · rw [if_neg (nI_nlt (by omega) (by omega))]
      by_cases c2 : v ≤ hi
      · rw [if_pos (nI_le c2 (by omega)), if_pos (by omega)]
      · rw [if_neg (nI_ge (by omega) (by omega)), if_neg (by omega)]
  have mT : ∀ (v x : Nat) (T' : SS), v ≤ 99 → tpM n tp T' → gi T' 52 3 = nI x → 1 ≤ x → x ≤ n → gi T' 52 4 = -1 → FP atM T T' → a < x →
      (dg n tp x = true ∧ fX12_number_j67 N (nI lo) (nI hi) (nI v) T' = some (pj T' 52 4 (nI x), nI v)) ∨
      (dg n tp x = false ∧ fX12_number_j67 N (nI lo) (nI hi) (nI v) T' = (if lo ≤ v ∧ v ≤ hi then some (T', nI v) else some (pj (pj T' 52 3 (nI (x - 1))) 52 4 (nI (x - 1)), nI v))) := fun v x T' hv h1 h2 h3 h4' h5 h6 h7 => by
    unfold fX12_number_j67
    rw [bd_s (hM1 T' x h1 h2 h4'), bd_s (dgC hb).2, bd_s (inE v hv)]
    cases hd : dg n tp x
    · right
      refine ⟨rfl, ?_⟩
      rw [ifi0]
      by_cases c : lo ≤ v ∧ v ≤ hi
      · rw [if_pos c, decide_eq_true c, ifi1]
      · rw [if_neg c, decide_eq_false c, ifi0, lt_s9, h2, nI_s1 h3]
        have q : gi (pj T' 52 3 (nI (x - 1))) 52 4 = -1 := by
          rw [gi_ne (by omega)]
          exact h5
        rw [bd_s (m_bad1 q)]
        have q2 : gi (pj T' 52 3 (nI (x - 1))) 52 3 = nI (x - 1) := by
          rw [gi_pj]
          rfl
        rw [q2]
    · left
      refine ⟨rfl, ?_⟩
      rw [ifi1, bd_s (m_bad1 h5), h2]
  have mN : ∀ (hd : dg n tp A = true), fX12_number N T (nI lo) (nI hi) = (if i01 (dg n tp (A + 1)) = 0 then fX12_number_j67 N (nI lo) (nI hi) (nI (tp A - 48)) (pj T1 52 3 (nI (A + 1))) else fX12_number_j67 N (nI lo) (nI hi) (nI (10 * (tp A - 48) + (tp (A + 1) - 48))) (pj (pj T1 52 3 (nI (A + 1))) 52 3 (nI (A + 2)))) := fun hd => by
    obtain ⟨q1, q2, q3⟩ := dg_ex hd
    have ec : ch n tp A = nI (tp A) := by
      unfold ch
      rw [if_pos q1]
    obtain ⟨p1, p2, p3⟩ := pjM (a := A + 1) hM
    unfold fX12_number
    rw [b2_s t1, bd_s (dgC hb).2, hd, ifi1, bd_s (hM1 T1 A hM hT hAn), hT, ec]
    simp only [lt_s9, nI_1]
    rw [bd_s (hM1 _ (A + 1) p1 p2 q1), bd_s (dgC hb).2, bd_s (hM1 _ (A + 1) p1 p2 q1), p2, nI_1, show nI (tp A) - 48 = nI (tp A - 48) from pk_sub (b := 48) (by omega)]
    cases hd1 : dg n tp (A + 1)
    · rfl
    · obtain ⟨r1, r2, r3⟩ := dg_ex hd1
      have ec1 : ch n tp (A + 1) = nI (tp (A + 1)) := by
        unfold ch
        rw [if_pos r1]
      rw [ifi1, ifi1, ec1, (dg_nI r2).2]
  rcases (by omega : e = A ∨ e = A + 1 ∨ e = A + 2) with he | he | he
  · -- no digit
    subst he
    have hd : dg n tp e = false := by
      rcases z7 with ⟨w1, _⟩ | ⟨_, w2, _⟩
      · exact w1
      · omega
    right
    have w2 : fX9_number_l9 N N (nI 2) (nI 0) (nI 0) S1 = fX9_number_j76 N (nI (nv tp 0 e (e - e))) (nI (0 + (e - e))) S2 := by
      rcases z7 with ⟨_, w2⟩ | ⟨_, w2, _⟩
      · exact w2
      · omega
    refine ⟨e, S2, pj T1 52 4 (gi T1 52 3), nI lo, z3, ?_, ?_, fs2, (ft1.mono am).tr (FP.pj ⟨rfl, Or.inr rfl⟩), z6, by rw [gi_pj, hT]; rfl⟩
    · unfold fX6_readNumber
      have e1 : fX9_number N S 2 = some (S2, -1) := by
        rw [nEq, w2, Nat.sub_self]
        rfl
      rw [b2_s e1, if_pos rfl]
    · unfold fX12_number
      rw [b2_s t1, bd_s (dgC hb).2, hd, ifi0, bd_s (m_bad1 h4)]
  · -- one digit
    subst he
    have hd0 : dg n tp A = true := z4 A (Nat.le_refl _) (by omega)
    obtain ⟨q1, q2, q3⟩ := dg_ex hd0
    have hd : dg n tp (A + 1) = false := by
      rcases z7 with ⟨w1, _⟩ | ⟨_, w2, _⟩
      · exact w1
      · omega
    have w2 : fX9_number_l9 N N (nI 2) (nI 0) (nI 0) S1 = fX9_number_j76 N (nI (nv tp 0 A (A + 1 - A))) (nI (0 + (A + 1 - A))) S2 := by
      rcases z7 with ⟨_, w2⟩ | ⟨_, w2, _⟩
      · exact w2
      · omega
    have e1 : fX9_number N S 2 = some (S2, nI (tp A - 48)) := by
      rw [nEq, w2, show A + 1 - A = 1 by omega]
      show fX9_number_j76 N (nI (10 * 0 + (tp A - 48))) (nI 1) S2 = _
      unfold fX9_number_j76
      rw [if_neg (by decide), Nat.mul_zero, Nat.zero_add]
    have c1 := cT (tp A - 48) (by omega) e1
    have m1 := mN hd0
    rw [hd, ifi0] at m1
    obtain ⟨p1, p2, p3⟩ := pjM (a := A + 1) hM
    have h41 : gi (pj T1 52 3 (nI (A + 1))) 52 4 = -1 := (p3.gi (by simp [atM])).trans h4
    rcases mT (tp A - 48) (A + 1) _ (by omega) p1 p2 (by omega) z3 h41 (ft1.tr p3) (by omega) with ⟨y1, _⟩ | ⟨_, y2⟩
    · rw [hd] at y1
      cases y1
    · rw [y2] at m1
      by_cases c : lo ≤ tp A - 48 ∧ tp A - 48 ≤ hi
      · rw [if_pos c] at c1 m1
        exact Or.inl ⟨_, A + 1, S2, _, c.1, c.2, c1, m1, fs2, ft1.tr p3, ⟨hC2, p1, z6, p2, h41, z3⟩, by omega⟩
      · rw [if_neg c] at c1 m1
        exact Or.inr ⟨A, _, _, _, hAn, c1, m1, fs2.tr (FP.pj ⟨rfl, rfl⟩), (((ft1.tr p3).mono am).tr (FP.pj ⟨rfl, Or.inl rfl⟩)).tr (FP.pj ⟨rfl, Or.inr rfl⟩), by rw [gi_pj, nI_s1 (by omega)]; rfl, by rw [gi_pj]; rfl⟩
  · subst he
    have hd0 : dg n tp A = true := z4 A (Nat.le_refl _) (by omega)
    have hd1 : dg n tp (A + 1) = true := z4 (A + 1) (by omega) (by omega)
    obtain ⟨q1, q2, q3⟩ := dg_ex hd0
    obtain ⟨r1, r2, r3⟩ := dg_ex hd1
    have m1 := mN hd0
    rw [hd1, ifi1] at m1
    obtain ⟨p1, p2, p3⟩ := pjM (a := A + 1) hM
    obtain ⟨p1', p2', p3'⟩ := pjM (a := A + 2) p1
    have h41 : gi (pj (pj T1 52 3 (nI (A + 1))) 52 3 (nI (A + 2))) 52 4 = -1 := (p3'.gi (by simp [atM])).trans ((p3.gi (by simp [atM])).trans h4)
    have hv : 10 * (tp A - 48) + (tp (A + 1) - 48) ≤ 99 := by omega
    have fT := (ft1.tr p3).tr p3'
    rcases mT _ (A + 2) _ hv p1' p2' (by omega) z3 h41 fT (by omega) with ⟨y1, y2⟩ | ⟨y1, y2⟩
    · -- three digits
      rw [y2] at m1
      have w3 : fX9_number_l9 N N (nI 2) (nI 0) (nI 0) S1 = some (S2, -1) := by
        rcases z7 with ⟨w1, _⟩ | ⟨_, _, w3⟩
        · rw [y1] at w1
          cases w1
        · exact w3
      right
      refine ⟨A + 2, S2, _, _, z3, ?_, m1, fs2, (fT.mono am).tr (FP.pj ⟨rfl, Or.inr rfl⟩), z6, by rw [gi_pj]; rfl⟩
      unfold fX6_readNumber
      have e1 : fX9_number N S 2 = some (S2, -1) := by rw [nEq, w3]
      rw [b2_s e1, if_pos rfl]
    · rw [y2] at m1
      have w2 : fX9_number_l9 N N (nI 2) (nI 0) (nI 0) S1 = fX9_number_j76 N (nI (nv tp 0 A (A + 2 - A))) (nI (0 + (A + 2 - A))) S2 := by
        rcases z7 with ⟨_, w2⟩ | ⟨w1, _⟩
        · exact w2
        · rw [y1] at w1
          cases w1
      have e1 : fX9_number N S 2 = some (S2, nI (10 * (tp A - 48) + (tp (A + 1) - 48))) := by
        rw [nEq, w2, show A + 2 - A = 2 by omega]
        show fX9_number_j76 N (nI (10 * (10 * 0 + (tp A - 48)) + (tp (A + 1) - 48))) (nI 2) S2 = _
        unfold fX9_number_j76
        rw [if_neg (by decide), Nat.mul_zero, Nat.zero_add]
      have c1 := cT _ hv e1
      by_cases c : lo ≤ 10 * (tp A - 48) + (tp (A + 1) - 48) ∧ 10 * (tp A - 48) + (tp (A + 1) - 48) ≤ hi
      · rw [if_pos c] at c1 m1
        exact Or.inl ⟨_, A + 2, S2, _, c.1, c.2, c1, m1, fs2, fT, ⟨hC2, p1', z6, p2', h41, z3⟩, by omega⟩
      · rw [if_neg c] at c1 m1
        exact Or.inr ⟨A + 1, _, _, _, by omega, c1, m1, fs2.tr (FP.pj ⟨rfl, rfl⟩), ((fT.mono am).tr (FP.pj ⟨rfl, Or.inl rfl⟩)).tr (FP.pj ⟨rfl, Or.inr rfl⟩), by rw [gi_pj, nI_s1 (by omega)]; rfl, by rw [gi_pj]; rfl⟩
