/-! the tape, read by both -/
def FP (P : Nat → Nat → Prop) (S S' : SS) : Prop := (∀ k j, ¬ P k j → S'.1 k j = S.1 k j) ∧ S'.2 = S.2
theorem FP.rf {P : Nat → Nat → Prop} {S : SS} : FP P S S := ⟨fun _ _ _ => rfl, rfl⟩
theorem FP.tr {P : Nat → Nat → Prop} {S S' S'' : SS} (h : FP P S S') (h' : FP P S' S'') : FP P S S'' := ⟨fun k j hk => (h'.1 k j hk).trans (h.1 k j hk), h'.2.trans h.2⟩
theorem FP.mono {P Q : Nat → Nat → Prop} {S S' : SS} (h : FP P S S') (hs : ∀ k j, P k j → Q k j) : FP Q S S' := ⟨fun k j hk => h.1 k j (fun q => hk (hs k j q)), h.2⟩
theorem FP.pj {P : Nat → Nat → Prop} {S : SS} {k j : Nat} {v : Int32} (h : P k j) : FP P S (pj S k j v) := ⟨fun a b hb => by
  have e := gi_pj (S := S) (k := k) (k' := a) (j := j) (j' := b) (v := v)
  unfold gi at e
  rw [e]
  by_cases h1 : a = k
  · rw [if_pos h1]
    by_cases h2 : b = j
    · exact absurd (by rw [h1, h2]; exact h) hb
    · rw [if_neg h2]
  · rw [if_neg h1], rfl⟩
theorem FP.pa {P : Nat → Nat → Prop} {S : SS} {k : Nat} {i v : Int32} (h : P k i.toNatClampNeg) : FP P S (pa S k i v) := FP.pj h
theorem FP.gi {P : Nat → Nat → Prop} {S S' : SS} (h : FP P S S') {k j : Nat} (hk : ¬ P k j) : gi S' k j = gi S k j := h.1 k j hk
theorem FP.row {P : Nat → Nat → Prop} {S S' : SS} (h : FP P S S') {k : Nat} (hk : ∀ j, ¬ P k j) : S'.1 k = S.1 k := funext fun j => h.1 k j (hk j)
theorem FP.sm {P Q : Nat → Nat → Prop} {S S' : SS} (h : FP P S S') (hq : ∀ k j, Q k j → ¬ P k j) : Sm Q S S' := fun k j q => h.1 k j (hq k j q)
def tpC (n : Nat) (tp : Nat → Nat) (S : SS) : Prop := gi S 1 1 = nI n ∧ ∀ j, j < n → S.1 2 j = nI (tp j)
def tpM (n : Nat) (tp : Nat → Nat) (T : SS) : Prop := gi T 52 2 = nI n ∧ ∀ j, j < n → T.1 53 j = nI (tp j)
def tpB (n : Nat) (tp : Nat → Nat) : Prop := n ≤ 240 ∧ ∀ j, j < n → 0 < tp j ∧ tp j < 256
theorem tpC.f {P : Nat → Nat → Prop} {n : Nat} {tp : Nat → Nat} {S S' : SS} (h : tpC n tp S) (hf : FP P S S') (h1 : ¬ P 1 1) (h2 : ∀ j, ¬ P 2 j) : tpC n tp S' := ⟨(hf.gi h1).trans h.1, fun j hj => (hf.1 2 j (h2 j)).trans (h.2 j hj)⟩
theorem tpM.f {P : Nat → Nat → Prop} {n : Nat} {tp : Nat → Nat} {T T' : SS} (h : tpM n tp T) (hf : FP P T T') (h1 : ¬ P 52 2) (h2 : ∀ j, ¬ P 53 j) : tpM n tp T' := ⟨(hf.gi h1).trans h.1, fun j hj => (hf.1 53 j (h2 j)).trans (h.2 j hj)⟩
def ch (n : Nat) (tp : Nat → Nat) (i : Nat) : Int32 := if i < n then nI (tp i) else -1
def skF (tp : Nat → Nat) : Nat → Nat → Nat
  | 0, a => a
  | j + 1, a => if tp a = 32 then skF tp j (a + 1) else a
def sk (n : Nat) (tp : Nat → Nat) (a : Nat) : Nat := skF tp (n - a) a
theorem skF_le {tp : Nat → Nat} : ∀ (j a : Nat), a ≤ skF tp j a ∧ skF tp j a ≤ a + j ∧ (skF tp j a < a + j → tp (skF tp j a) ≠ 32)
  | 0, a => ⟨Nat.le_refl _, Nat.le_refl _, fun h => absurd h (by show ¬ a < a + 0; omega)⟩
  | j + 1, a => by
    unfold skF
    by_cases h : tp a = 32
    · rw [if_pos h]
      have := skF_le (tp := tp) j (a + 1)
      refine ⟨by omega, by omega, fun q => this.2.2 (by omega)⟩
    · rw [if_neg h]
      exact ⟨Nat.le_refl _, by omega, fun _ => h⟩
theorem sk_le {n a : Nat} {tp : Nat → Nat} (h : a ≤ n) : a ≤ sk n tp a ∧ sk n tp a ≤ n := by
  have := skF_le (tp := tp) (n - a) a
  unfold sk
  omega
theorem sk_no {n a : Nat} {tp : Nat → Nat} (h : ¬ (a < n ∧ tp a = 32)) : sk n tp a = a := by
  unfold sk
  cases hq : n - a with
  | zero => rfl
  | succ j =>
    unfold skF
    rw [if_neg (fun z => h ⟨by omega, z⟩)]
theorem sk_yes {n a : Nat} {tp : Nat → Nat} (h1 : a < n) (h2 : tp a = 32) : sk n tp a = sk n tp (a + 1) := by
  unfold sk
  rw [show n - a = (n - (a + 1)) + 1 by omega]
  show (if tp a = 32 then skF tp (n - (a + 1)) (a + 1) else a) = _
  rw [if_pos h2]
theorem sk_sk {n a : Nat} {tp : Nat → Nat} (h : a ≤ n) : sk n tp (sk n tp a) = sk n tp a := by
  have q := skF_le (tp := tp) (n - a) a
  refine sk_no (fun z => ?_)
  have e : sk n tp a = skF tp (n - a) a := rfl
  rw [e] at z
  exact q.2.2 (by omega) z.2
def atC (k j : Nat) : Prop := k = 1 ∧ j = 2
def atM (k j : Nat) : Prop := k = 52 ∧ j = 3
theorem nI32 {v : Nat} (h : v < 256) : (nI v = 32) = (v = 32) := propext (nI_eq (by omega) (by omega) (b := 32))
theorem c_sgn_l {n N : Nat} {tp : Nat → Nat} (hb : tpB n tp) : ∀ (j a f : Nat) (S : SS), tpC n tp S → gi S 1 2 = nI a → a + j = n → j < f → ∃ S2, fX9_sign_l0 N f S = some (S2, ch n tp (sk n tp a)) ∧ FP atC S S2 ∧ gi S2 1 2 = nI (sk n tp a) := by
  have hn := hb.1
  intro j
  induction j with
  | zero =>
    intro a f S hC ha hj hf
    obtain ⟨f, rfl⟩ : ∃ q, f = q + 1 := ⟨f - 1, by omega⟩
    have e : sk n tp a = a := sk_no (by omega)
    unfold fX9_sign_l0 fX9_sign_j38
    rw [hC.1, ha, if_pos (nI_le (by omega) (by omega)), if_pos (nI_le (by omega) (by omega)), e]
    refine ⟨S, ?_, FP.rf, ha⟩
    unfold ch
    rw [if_neg (by omega)]
  | succ j ih =>
    intro a f S hC ha hj hf
    obtain ⟨f, rfl⟩ : ∃ q, f = q + 1 := ⟨f - 1, by omega⟩
    have hlt : a < n := by omega
    have ht := hb.2 a hlt
    unfold fX9_sign_l0 fX9_sign_j38
    rw [hC.1, ha, if_neg (nI_ge hlt (by omega)), if_neg (nI_ge hlt (by omega)), ck_in (by omega) (by omega), ck_in (by omega) (by omega), ga_nI (by omega), hC.2 a hlt, lt_s9, nI_1]
    by_cases h : tp a = 32
    · rw [if_pos (by rw [h]; rfl), sk_yes hlt h]
      have f1 : FP atC S (pj S 1 2 (nI (a + 1))) := FP.pj ⟨rfl, rfl⟩
      obtain ⟨S2, z1, z2, z3⟩ := ih (a + 1) f (pj S 1 2 (nI (a + 1))) (hC.f f1 (by simp [atC]) (by simp [atC])) (by rw [gi_pj]; rfl) (by omega) (by omega)
      exact ⟨S2, z1, f1.tr z2, z3⟩
    · rw [if_neg (by rw [nI32 ht.2]; exact h), sk_no (fun z => h z.2)]
      refine ⟨S, ?_, FP.rf, ha⟩
      unfold ch
      rw [if_pos hlt]
theorem c_sgn {n N a : Nat} {tp : Nat → Nat} {S : SS} (hN : 250 ≤ N) (hb : tpB n tp) (hC : tpC n tp S) (ha : gi S 1 2 = nI a) (hn : a ≤ n) : ∃ S2, fX9_sign N S = some (S2, ch n tp (sk n tp a)) ∧ FP atC S S2 ∧ gi S2 1 2 = nI (sk n tp a) := c_sgn_l hb (n - a) a N S hC ha (by omega) (by have := hb.1; omega)
theorem m_here {n N a : Nat} {tp : Nat → Nat} {T : SS} (hb : tpB n tp) (hC : tpM n tp T) (ha : gi T 52 3 = nI a) (hn : a < 2000) : fX12_here N T = some (ch n tp a) := by
  have := hb.1
  unfold fX12_here ch
  rw [hC.1, ha]
  by_cases h : a < n
  · rw [if_neg (nI_ge h (by omega)), ck_in (by omega) (by omega), ga_nI (by omega), hC.2 a h, if_pos h]
  · rw [if_pos (nI_le (by omega) (by omega)), if_neg h]
theorem ch32 {n a : Nat} {tp : Nat → Nat} (hb : tpB n tp) : (ch n tp a = 32) = (a < n ∧ tp a = 32) := by
  unfold ch
  by_cases h : a < n
  · rw [if_pos h, nI32 (hb.2 a h).2]
    simp [h]
  · rw [if_neg h]
    simp only [h, false_and]
    exact propext ⟨fun z => absurd z (by decide), fun z => z.elim⟩
theorem m_look_l {n N : Nat} {tp : Nat → Nat} (hb : tpB n tp) : ∀ (j a f : Nat) (T : SS), tpM n tp T → gi T 52 3 = nI a → a + j = n → j < f → ∃ T2, fX12_look_l0 N f T = some (T2, ch n tp (sk n tp a)) ∧ FP atM T T2 ∧ gi T2 52 3 = nI (sk n tp a) := by
  have hn := hb.1
  intro j
  induction j with
  | zero =>
    intro a f T hC ha hj hf
    obtain ⟨f, rfl⟩ : ∃ q, f = q + 1 := ⟨f - 1, by omega⟩
    have e : sk n tp a = a := sk_no (by omega)
    unfold fX12_look_l0
    rw [bd_s (m_here hb hC ha (by omega)), if_neg (by rw [ch32 hb]; omega), bd_s (m_here hb hC ha (by omega)), e]
    exact ⟨T, rfl, FP.rf, ha⟩
  | succ j ih =>
    intro a f T hC ha hj hf
    obtain ⟨f, rfl⟩ : ∃ q, f = q + 1 := ⟨f - 1, by omega⟩
    have hlt : a < n := by omega
    unfold fX12_look_l0
    rw [bd_s (m_here hb hC ha (by omega)), bd_s (m_here hb hC ha (by omega)), ha, lt_s9, nI_1]
    by_cases h : tp a = 32
    · rw [if_pos (by rw [ch32 hb]; exact ⟨hlt, h⟩), sk_yes hlt h]
      have f1 : FP atM T (pj T 52 3 (nI (a + 1))) := FP.pj ⟨rfl, rfl⟩
      obtain ⟨S2, z1, z2, z3⟩ := ih (a + 1) f (pj T 52 3 (nI (a + 1))) (hC.f f1 (by simp [atM]) (by simp [atM])) (by rw [gi_pj]; rfl) (by omega) (by omega)
      exact ⟨S2, z1, f1.tr z2, z3⟩
    · rw [if_neg (by rw [ch32 hb]; exact fun z => h z.2), sk_no (fun z => h z.2)]
      exact ⟨T, rfl, FP.rf, ha⟩
theorem m_look {n N a : Nat} {tp : Nat → Nat} {T : SS} (hN : 250 ≤ N) (hb : tpB n tp) (hC : tpM n tp T) (ha : gi T 52 3 = nI a) (hn : a ≤ n) : ∃ T2, fX12_look N T = some (T2, ch n tp (sk n tp a)) ∧ FP atM T T2 ∧ gi T2 52 3 = nI (sk n tp a) := m_look_l hb (n - a) a N T hC ha (by omega) (by have := hb.1; omega)
/-- both stand at a, nothing is wrong yet -/
def Bt (n : Nat) (tp : Nat → Nat) (a : Nat) (S T : SS) : Prop := tpC n tp S ∧ tpM n tp T ∧ gi S 1 2 = nI a ∧ gi T 52 3 = nI a ∧ gi T 52 4 = -1 ∧ a ≤ n
theorem Bt.look {n N a : Nat} {tp : Nat → Nat} {S T : SS} (hN : 250 ≤ N) (hb : tpB n tp) (h : Bt n tp a S T) : ∃ S2 T2, fX9_sign N S = some (S2, ch n tp (sk n tp a)) ∧ fX12_look N T = some (T2, ch n tp (sk n tp a)) ∧ FP atC S S2 ∧ FP atM T T2 ∧ Bt n tp (sk n tp a) S2 T2 := by
  obtain ⟨h1, h2, h3, h4, h5, h6⟩ := h
  obtain ⟨S2, z1, z2, z3⟩ := c_sgn hN hb h1 h3 h6
  obtain ⟨T2, y1, y2, y3⟩ := m_look hN hb h2 h4 h6
  exact ⟨S2, T2, z1, y1, z2, y2, h1.f z2 (by simp [atC]) (by simp [atC]), h2.f y2 (by simp [atM]) (by simp [atM]), z3, y3, (y2.gi (by simp [atM])).trans h5, (sk_le h6).2⟩
theorem Bt.step {n a : Nat} {tp : Nat → Nat} {S T : SS} (h : Bt n tp a S T) (ha : a < n) : Bt n tp (a + 1) (pj S 1 2 (gi S 1 2 + 1)) (pj T 52 3 (gi T 52 3 + 1)) := by
  obtain ⟨h1, h2, h3, h4, h5, h6⟩ := h
  have f1 : FP atC S (pj S 1 2 (gi S 1 2 + 1)) := FP.pj ⟨rfl, rfl⟩
  have f2 : FP atM T (pj T 52 3 (gi T 52 3 + 1)) := FP.pj ⟨rfl, rfl⟩
  exact ⟨h1.f f1 (by simp [atC]) (by simp [atC]), h2.f f2 (by simp [atM]) (by simp [atM]), by rw [gi_pj, h3, nI_1]; rfl, by rw [gi_pj, h4, nI_1]; rfl, (f2.gi (by simp [atM])).trans h5, ha⟩
theorem Bt.f {n a : Nat} {tp : Nat → Nat} {S T S' T' : SS} {P Q : Nat → Nat → Prop} (h : Bt n tp a S T) (hS : FP P S S') (hT : FP Q T T') (p1 : ¬ P 1 1) (p2 : ∀ j, ¬ P 2 j) (p3 : ¬ P 1 2) (q1 : ¬ Q 52 2) (q2 : ∀ j, ¬ Q 53 j) (q3 : ¬ Q 52 3) (q4 : ¬ Q 52 4) : Bt n tp a S' T' := by
  obtain ⟨h1, h2, h3, h4, h5, h6⟩ := h
  exact ⟨h1.f hS p1 p2, h2.f hT q1 q2, (hS.gi p3).trans h3, (hT.gi q3).trans h4, (hT.gi q4).trans h5, h6⟩
/-- a sign that is one: it lies on the tape -/
theorem ch_in {n a v : Nat} {tp : Nat → Nat} (hv : v < 256) (h : ch n tp a = nI v) : a < n ∧ ch n tp a = nI (tp a) := by
  unfold ch at *
  by_cases q : a < n
  · rw [if_pos q] at h ⊢
    exact ⟨q, rfl⟩
  · rw [if_neg q] at h
    exact absurd h (m1_nI (by omega))
theorem c_take {n N a w : Nat} {tp : Nat → Nat} {S : SS} (hN : 250 ≤ N) (hb : tpB n tp) (hC : tpC n tp S) (ha : gi S 1 2 = nI a) (hn : a ≤ n) (x : Int32) (hw : x = nI w) (hw2 : w < 256) : (ch n tp (sk n tp a) = x ∧ sk n tp a < n ∧ ∃ S2, fX9_take N S x = some (S2, 1) ∧ FP atC S S2 ∧ gi S2 1 2 = nI (sk n tp a + 1)) ∨ (¬ ch n tp (sk n tp a) = x ∧ ∃ S2, fX9_take N S x = some (S2, 0) ∧ FP atC S S2 ∧ gi S2 1 2 = nI (sk n tp a)) := by
  obtain ⟨S2, z1, z2, z3⟩ := c_sgn hN hb hC ha hn
  unfold fX9_take
  rw [b2_s z1]
  by_cases h : ch n tp (sk n tp a) = x
  · rw [if_pos h, lt_s9, z3, nI_1]
    have h' := h
    rw [hw] at h'
    exact Or.inl ⟨h, (ch_in hw2 h').1, _, rfl, z2.tr (FP.pj ⟨rfl, rfl⟩), by rw [gi_pj]; rfl⟩
  · rw [if_neg h]
    exact Or.inr ⟨h, S2, rfl, z2, z3⟩
/-! digits -/
def dg (n : Nat) (tp : Nat → Nat) (i : Nat) : Bool := decide (i < n) && decide (48 ≤ tp i) && decide (tp i ≤ 57)
theorem dgC {n N i : Nat} {tp : Nat → Nat} (hb : tpB n tp) : fX9_isDigit N (ch n tp i) = some (i01 (dg n tp i)) ∧ fX12_isDigit N (ch n tp i) = some (i01 (dg n tp i)) := by
  have e : fX12_isDigit N (ch n tp i) = fX9_isDigit N (ch n tp i) := rfl
  rw [e]
  have key : fX9_isDigit N (ch n tp i) = some (i01 (dg n tp i)) := by
    unfold fX9_isDigit ch dg
    by_cases h : i < n
    · have q := hb.2 i h
      rw [if_pos h]
      by_cases h1 : tp i < 48
      · rw [if_pos (show nI (tp i) < 48 from nI_lt (b := 48) h1 (by omega))]
        have : ¬ 48 ≤ tp i := by omega
        simp [this, i01]
      · rw [if_neg (show ¬ nI (tp i) < 48 from nI_nlt (b := 48) (by omega) (by omega))]
        by_cases h2 : 57 < tp i
        · rw [if_pos (show 57 < nI (tp i) from nI_lt (a := 57) h2 (by omega))]
          have : ¬ tp i ≤ 57 := by omega
          simp [this, i01]
        · rw [if_neg (show ¬ 57 < nI (tp i) from nI_nlt (a := 57) (by omega) (by omega))]
          have a1 : 48 ≤ tp i := by omega
          have a2 : tp i ≤ 57 := by omega
          simp [h, a1, a2, i01]
    · rw [if_neg h]
      simp only [h, decide_false, Bool.false_and]
      decide
  exact ⟨key, key⟩
theorem dg_ex {n i : Nat} {tp : Nat → Nat} (h : dg n tp i = true) : i < n ∧ 48 ≤ tp i ∧ tp i ≤ 57 := by
  unfold dg at h
  simp only [Bool.and_eq_true, decide_eq_true_eq] at h
  exact ⟨h.1.1, h.1.2, h.2⟩
theorem dg_nI {v d : Nat} (h : 48 ≤ d) : nI v * 10 + nI d - 48 = nI (10 * v + (d - 48)) ∧ 10 * nI v + nI d - 48 = nI (10 * v + (d - 48)) := by
  rw [k_10, k_10b]
  have : nI (10 * v + d) - 48 = nI (10 * v + (d - 48)) := by
    show nI (10 * v + d) - nI 48 = _
    rw [pk_sub (by omega), show 10 * v + d - 48 = 10 * v + (d - 48) by omega]
  exact ⟨this, this⟩
/-- what the class's loop does at a digit, and where there is none -/
theorem c_num_no {n N f a : Nat} {tp : Nat → Nat} {S : SS} {x1 x2 x3 : Int32} (hb : tpB n tp) (hC : tpC n tp S) (ha : gi S 1 2 = nI a) (hn : a ≤ n) (hd : dg n tp a = false) : fX9_number_l9 N (f + 1) x1 x2 x3 S = fX9_number_j76 N x2 x3 S := by
  have := hb.1
  unfold fX9_number_l9
  rw [hC.1, ha]
  by_cases h : a < n
  · rw [if_neg (nI_ge h (by omega)), ck_in (by omega) (by omega), ga_nI (by omega), hC.2 a h]
    have e : nI (tp a) = ch n tp a := by
      unfold ch
      rw [if_pos h]
    rw [e, bd_s (dgC hb).1, hd, ifi0]
  · rw [if_pos (nI_le (by omega) (by omega))]
theorem c_num_yes {n N f a v : Nat} {tp : Nat → Nat} {S : SS} {x1 x3 : Int32} (hb : tpB n tp) (hC : tpC n tp S) (ha : gi S 1 2 = nI a) (hd : dg n tp a = true) : fX9_number_l9 N (f + 1) x1 (nI v) x3 S = if x3 = x1 then some (S, -1) else fX9_number_l9 N f x1 (nI (10 * v + (tp a - 48))) (x3 + 1) (pj S 1 2 (nI (a + 1))) := by
  have := hb.1
  obtain ⟨h, h2, h3⟩ := dg_ex hd
  have e : nI (tp a) = ch n tp a := by
    unfold ch
    rw [if_pos h]
  have e2 : fX9_isDigit N (nI (tp a)) = some (i01 true) := by rw [e, ← hd]; exact (dgC hb).1
  show (if gi S 1 1 ≤ gi S 1 2 then _ else _) = _
  rw [hC.1, ha, if_neg (nI_ge h (by omega)), ck_in (by omega) (by omega), ck_in (by omega) (by omega), ga_nI (by omega), hC.2 a h, bd_s e2, ifi1, (dg_nI h2).1]
  simp only [lt_s9, nI_1]
theorem pjC {n a : Nat} {tp : Nat → Nat} {S : SS} (hC : tpC n tp S) : tpC n tp (pj S 1 2 (nI a)) ∧ gi (pj S 1 2 (nI a)) 1 2 = nI a ∧ FP atC S (pj S 1 2 (nI a)) := by
  have f1 : FP atC S (pj S 1 2 (nI a)) := FP.pj ⟨rfl, rfl⟩
  exact ⟨hC.f f1 (by simp [atC]) (by simp [atC]), by rw [gi_pj]; rfl, f1⟩
theorem pjM {n a : Nat} {tp : Nat → Nat} {T : SS} (hC : tpM n tp T) : tpM n tp (pj T 52 3 (nI a)) ∧ gi (pj T 52 3 (nI a)) 52 3 = nI a ∧ FP atM T (pj T 52 3 (nI a)) := by
  have f1 : FP atM T (pj T 52 3 (nI a)) := FP.pj ⟨rfl, rfl⟩
  exact ⟨hC.f f1 (by simp [atM]) (by simp [atM]), by rw [gi_pj]; rfl, f1⟩
def wrM (k j : Nat) : Prop := k = 52 ∧ (j = 3 ∨ j = 4)
theorem m_bad1 {N : Nat} {T : SS} (h : gi T 52 4 = -1) : fX12_bad N T = some (pj T 52 4 (gi T 52 3)) := by
  unfold fX12_bad
  rw [if_pos h, lt_s9]
theorem m_bad2 {N : Nat} {T : SS} (h : ¬ gi T 52 4 = -1) : fX12_bad N T = some (pj T 52 4 (gi T 52 4)) := by
  unfold fX12_bad
  rw [if_neg h, lt_s9]
