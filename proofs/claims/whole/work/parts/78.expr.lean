/-! a law read by both: sums -/
def stC (S : SS) (ls : List Int32) : Prop := gi S 12 2 = nI ls.length ∧ ∀ i x, ls[i]? = some x → S.1 13 i = x
def cdM (T : SS) (t : Nat) (lc : List (Nat × Nat)) : Prop := T.1 56 t = nI lc.length ∧ ∀ i o, lc[i]? = some o → T.1 54 (520 * t + i) = nI o.1 ∧ T.1 55 (520 * t + i) = nI o.2
def lrC (k j : Nat) : Prop := (k = 1 ∧ j = 2) ∨ (k = 12 ∧ j = 2) ∨ k = 13
def lrM (t : Nat) (k j : Nat) : Prop := (k = 52 ∧ (j = 3 ∨ j = 4 ∨ j = 5)) ∨ (k = 54 ∧ 520 * t ≤ j ∧ j < 520 * (t + 1)) ∨ (k = 55 ∧ 520 * t ≤ j ∧ j < 520 * (t + 1)) ∨ (k = 56 ∧ j = t)
def wrC (k j : Nat) : Prop := (k = 12 ∧ j = 2) ∨ k = 13
def puM (t : Nat) (k j : Nat) : Prop := (k = 54 ∧ 520 * t ≤ j ∧ j < 520 * (t + 1)) ∨ (k = 55 ∧ 520 * t ≤ j ∧ j < 520 * (t + 1)) ∨ (k = 56 ∧ j = t)
theorem c_wrt {N : Nat} {S : SS} {ls : List Int32} {x : Int32} (h : stC S ls) (hl : ls.length < 240) : ∃ S2, fX3_write N S x = some S2 ∧ stC S2 (ls ++ [x]) ∧ FP wrC S S2 := by
  unfold fX3_write
  have e1 : gi (pa S 13 (nI ls.length) x) 12 2 = nI ls.length := h.1
  rw [h.1, if_neg (show ¬ (240 : Int32) ≤ nI ls.length from nI_ge (b := 240) hl (by omega)), ck_in hl (by omega), lt_s9, lt_s9, e1, nI_1]
  refine ⟨_, rfl, ⟨?_, fun i y hy => ?_⟩, (FP.pa (Or.inr rfl)).tr (FP.pj (Or.inl ⟨rfl, rfl⟩))⟩
  · rw [gi_pj, if_pos rfl, if_pos rfl]
    simp
  · rw [pj_ne (by decide), row_pa, if_pos rfl, nI_clamp (by omega)]
    by_cases q : i = ls.length
    · subst q
      rw [pk_us]
      simpa using hy
    · rw [pk_un q]
      apply h.2 i y
      have hi : i < (ls ++ [x]).length := (List.getElem?_eq_some_iff.mp hy).1
      simp at hi
      rw [List.getElem?_append_left (by omega)] at hy
      exact hy
theorem k520 (t c : Nat) : 520 * nI t + nI c = nI (520 * t + c) := by
  show nI 520 * nI t + nI c = _
  rw [pk_mul, nI_add]
theorem m_put {N t c : Nat} {T : SS} {x y : Int32} (ht : t ≤ 4) (h14 : gi T 52 14 = nI t) (h56 : T.1 56 t = nI c) (hc : c < 520) : ∃ T2, fX12_put N T x y = some T2 ∧ T2.1 56 t = nI (c + 1) ∧ (∀ j, T2.1 54 j = if j = 520 * t + c then x else T.1 54 j) ∧ (∀ j, T2.1 55 j = if j = 520 * t + c then y else T.1 55 j) ∧ FP (puM t) T T2 := by
  unfold fX12_put
  have g56 : ga T 56 (nI t) = nI c := by
    rw [ga_nI (by omega)]
    exact h56
  have e1 : ∀ v, gi (pa T 54 (nI (520 * t + c)) v) 52 14 = nI t := fun v => h14
  have e2 : ∀ v, ga (pa T 54 (nI (520 * t + c)) v) 56 (nI t) = nI c := fun v => g56
  have e3 : ∀ v w, gi (pa (pa T 54 (nI (520 * t + c)) v) 55 (nI (520 * t + c)) w) 52 14 = nI t := fun v w => h14
  have e4 : ∀ v w, ga (pa (pa T 54 (nI (520 * t + c)) v) 55 (nI (520 * t + c)) w) 56 (nI t) = nI c := fun v w => g56
  rw [h14, g56, k520, ck_in (by omega) (by omega), ck_in (by omega) (by omega), lt_s9, e1, e2, k520, ck_in (by omega) (by omega), ck_in (by omega) (by omega), lt_s9, e3, e4, ck_in (by omega) (by omega), ck_in (by omega) (by omega), lt_s9, nI_1]
  refine ⟨_, rfl, ?_, fun j => ?_, fun j => ?_, ?_⟩
  · rw [row_pa, if_pos rfl, nI_clamp (by omega), pk_us]
  · rw [row_pa, if_neg (by decide), row_pa, if_neg (by decide), row_pa, if_pos rfl, nI_clamp (by omega), upd_at]
  · rw [row_pa, if_neg (by decide), row_pa, if_pos rfl, nI_clamp (by omega), row_pa, if_neg (by decide), upd_at]
  · have cl : (nI (520 * t + c)).toNatClampNeg = 520 * t + c := nI_clamp (by omega)
    have ct : (nI t).toNatClampNeg = t := nI_clamp (by omega)
    exact ((FP.pa (Or.inl ⟨rfl, by rw [cl]; omega⟩)).tr (FP.pa (Or.inr (Or.inl ⟨rfl, by rw [cl]; omega⟩)))).tr (FP.pa (Or.inr (Or.inr ⟨rfl, ct⟩)))
theorem cd_put {N t : Nat} {T : SS} {lc : List (Nat × Nat)} {o : Nat × Nat} (ht : t ≤ 4) (h14 : gi T 52 14 = nI t) (h : cdM T t lc) (hc : lc.length < 520) : ∃ T2, fX12_put N T (nI o.1) (nI o.2) = some T2 ∧ cdM T2 t (lc ++ [o]) ∧ FP (puM t) T T2 := by
  obtain ⟨T2, z1, z2, z3, z4, z5⟩ := m_put (N := N) (x := nI o.1) (y := nI o.2) ht h14 h.1 hc
  refine ⟨T2, z1, ⟨by rw [z2]; simp, fun i y hy => ?_⟩, z5⟩
  rw [z3, z4]
  by_cases q : i = lc.length
  · subst q
    rw [if_pos rfl, if_pos rfl]
    have : o = y := by simpa using hy
    rw [this]
    exact ⟨rfl, rfl⟩
  · rw [if_neg (by omega), if_neg (by omega)]
    apply h.2 i y
    have hi : i < (lc ++ [o]).length := (List.getElem?_eq_some_iff.mp hy).1
    simp at hi
    rw [List.getElem?_append_left (by omega)] at hy
    exact hy
/-- both read, what they wrote so far, how deep they are -/
def LB (n : Nat) (tp : Nat → Nat) (t a : Nat) (ls : List Int32) (lc : List (Nat × Nat)) (dp : Nat) (S T : SS) : Prop := Bt n tp a S T ∧ stC S ls ∧ cdM T t lc ∧ gi T 52 14 = nI t ∧ gi T 52 5 = nI dp ∧ ls.length ≤ a ∧ lc.length ≤ ls.length ∧ 0 < a
theorem stC.f {P : Nat → Nat → Prop} {S S' : SS} {ls : List Int32} (h : stC S ls) (hf : FP P S S') (h1 : ¬ P 12 2) (h2 : ∀ j, ¬ P 13 j) : stC S' ls := ⟨(hf.gi h1).trans h.1, fun i x hx => (hf.1 13 i (h2 i)).trans (h.2 i x hx)⟩
theorem cdM.f {P : Nat → Nat → Prop} {T T' : SS} {t : Nat} {lc : List (Nat × Nat)} (h : cdM T t lc) (hf : FP P T T') (h1 : ∀ k j, P k j → k = 52) : cdM T' t lc := ⟨(hf.1 56 t (fun q => by have := h1 _ _ q; omega)).trans h.1, fun i o ho => ⟨(hf.1 54 _ (fun q => by have := h1 _ _ q; omega)).trans (h.2 i o ho).1, (hf.1 55 _ (fun q => by have := h1 _ _ q; omega)).trans (h.2 i o ho).2⟩⟩
theorem LB.look {n N t a dp : Nat} {tp : Nat → Nat} {ls : List Int32} {lc : List (Nat × Nat)} {S T : SS} (hN : 250 ≤ N) (hb : tpB n tp) (h : LB n tp t a ls lc dp S T) : ∃ S2 T2, fX9_sign N S = some (S2, ch n tp (sk n tp a)) ∧ fX12_look N T = some (T2, ch n tp (sk n tp a)) ∧ FP atC S S2 ∧ FP atM T T2 ∧ LB n tp t (sk n tp a) ls lc dp S2 T2 ∧ a ≤ sk n tp a := by
  obtain ⟨h1, h2, h3, h4, h5, h6, h7, h8⟩ := h
  obtain ⟨S2, T2, z1, z2, z3, z4, z5⟩ := h1.look hN hb
  have hsk := sk_le (tp := tp) h1.2.2.2.2.2
  exact ⟨S2, T2, z1, z2, z3, z4, ⟨z5, h2.f z3 (by simp [atC]) (by simp [atC]), h3.f z4 (fun k j q => q.1), (z4.gi (by simp [atM])).trans h4, (z4.gi (by simp [atM])).trans h5, by omega, h7, by omega⟩, hsk.1⟩
theorem LB.step {n t a dp : Nat} {tp : Nat → Nat} {ls : List Int32} {lc : List (Nat × Nat)} {S T : SS} (h : LB n tp t a ls lc dp S T) (ha : a < n) : LB n tp t (a + 1) ls lc dp (pj S 1 2 (gi S 1 2 + 1)) (pj T 52 3 (gi T 52 3 + 1)) := by
  obtain ⟨h1, h2, h3, h4, h5, h6, h7, h8⟩ := h
  have f1 : FP atC S (pj S 1 2 (gi S 1 2 + 1)) := FP.pj ⟨rfl, rfl⟩
  have f2 : FP atM T (pj T 52 3 (gi T 52 3 + 1)) := FP.pj ⟨rfl, rfl⟩
  exact ⟨h1.step ha, h2.f f1 (by simp [atC]) (by simp [atC]), h3.f f2 (fun k j q => q.1), (f2.gi (by simp [atM])).trans h4, (f2.gi (by simp [atM])).trans h5, by omega, h7, by omega⟩
theorem LB.wr {n N t a dp : Nat} {tp : Nat → Nat} {ls : List Int32} {lc : List (Nat × Nat)} {S T : SS} (hb : tpB n tp) (ht : t ≤ 4) (h : LB n tp t a ls lc dp S T) (hl : ls.length < a) (o : Nat × Nat) : ∃ S2 T2, fX3_write N S (stI o) = some S2 ∧ fX12_put N T (nI o.1) (nI o.2) = some T2 ∧ FP wrC S S2 ∧ FP (puM t) T T2 ∧ LB n tp t a (ls ++ [stI o]) (lc ++ [o]) dp S2 T2 := by
  obtain ⟨h1, h2, h3, h4, h5, h6, h7, h8⟩ := h
  have hn := hb.1
  have ha := h1.2.2.2.2.2
  obtain ⟨S2, z1, z2, z3⟩ := c_wrt (N := N) (x := stI o) h2 (by omega)
  obtain ⟨T2, y1, y2, y3⟩ := cd_put (N := N) (o := o) ht h4 h3 (by omega)
  refine ⟨S2, T2, z1, y1, z3, y3, h1.f z3 y3 (by unfold wrC; omega) (by unfold wrC; intro j; omega) (by unfold wrC; omega) (by unfold puM; omega) (by unfold puM; intro j; omega) (by unfold puM; omega) (by unfold puM; omega), z2, y2, (y3.gi (by unfold puM; omega)).trans h4, (y3.gi (by unfold puM; omega)).trans h5, ?_, ?_, h8⟩
  · simp
    omega
  · simp
    omega
/-- what a reader of a part of a law comes to, in both -/
def Res (n : Nat) (tp : Nat → Nat) (t a : Nat) (ls : List Int32) (lc : List (Nat × Nat)) (dp : Nat) (P : List (Nat × Nat) → Prop) (u : Nat) (S T : SS) (x : Option (SS × Int32)) (y : Option SS) : Prop :=
  (∃ a' ops S2 T2, x = some (S2, 1) ∧ y = some T2 ∧ LB n tp t a' (ls ++ ops.map stI) (lc ++ ops) dp S2 T2 ∧ a + ops.length ≤ a' ∧ P ops ∧ FP lrC S S2 ∧ FP (lrM t) T T2) ∨
  (∃ w S2 T2 c, x = some (S2, 0) ∧ y = some T2 ∧ w ≤ n ∧ gi S2 1 2 = nI w ∧ gi T2 52 4 = nI w ∧ T2.1 56 t = nI c ∧ c ≤ 240 + u ∧ FP lrC S S2 ∧ FP (lrM t) T T2)
theorem atC_lr {k j : Nat} (h : atC k j) : lrC k j := Or.inl h
theorem wrC_lr {k j : Nat} (h : wrC k j) : lrC k j := Or.inr h
theorem atM_lr {t k j : Nat} (h : atM k j) : lrM t k j := Or.inl ⟨h.1, Or.inl h.2⟩
theorem puM_lr {t k j : Nat} (h : puM t k j) : lrM t k j := Or.inr h
theorem wrM_lr {t k j : Nat} (h : wrM k j) : lrM t k j := by
  unfold wrM at h
  unfold lrM
  omega
/-- it began a little earlier -/
theorem Res.pre {n t a0 a dp u : Nat} {tp : Nat → Nat} {ls : List Int32} {lc : List (Nat × Nat)} {P : List (Nat × Nat) → Prop} {S0 T0 S T : SS} {x : Option (SS × Int32)} {y : Option SS} (h : Res n tp t a ls lc dp P u S T x y) (ha : a0 ≤ a) (fS : FP lrC S0 S) (fT : FP (lrM t) T0 T) : Res n tp t a0 ls lc dp P u S0 T0 x y := by
  rcases h with ⟨a', ops, S2, T2, h1, h2, h3, h4, h5, h6, h7⟩ | ⟨w, S2, T2, c, h1, h2, h3, h4, h5, h6, h7, h8, h9⟩
  · exact Or.inl ⟨a', ops, S2, T2, h1, h2, h3, by omega, h5, fS.tr h6, fT.tr h7⟩
  · exact Or.inr ⟨w, S2, T2, c, h1, h2, h3, h4, h5, h6, h7, fS.tr h8, fT.tr h9⟩
/-- the reference alone, when something is wrong already -/
theorem m_putB {N t c w : Nat} {T : SS} {x y : Int32} (ht : t ≤ 4) (h14 : gi T 52 14 = nI t) (h56 : T.1 56 t = nI c) (hc : c < 500) (h4 : gi T 52 4 = nI w) : ∃ T2, fX12_put N T x y = some T2 ∧ T2.1 56 t = nI (c + 1) ∧ gi T2 52 4 = nI w ∧ gi T2 52 14 = nI t ∧ FP (puM t) T T2 := by
  obtain ⟨T2, z1, z2, z3, z4, z5⟩ := m_put (N := N) (x := x) (y := y) ht h14 h56 (by omega)
  exact ⟨T2, z1, z2, (z5.gi (by unfold puM; omega)).trans h4, (z5.gi (by unfold puM; omega)).trans h14, z5⟩
theorem nv_lt {n : Nat} {tp : Nat → Nat} : ∀ (j v a : Nat), (∀ i, a ≤ i → i < a + j → dg n tp i = true) → nv tp v a j < (v + 1) * 10 ^ j
  | 0, v, a, _ => by
    show v < (v + 1) * 10 ^ 0
    simp
  | j + 1, v, a, h => by
    have h1 := (dg_ex (h a (Nat.le_refl _) (by omega)))
    have h2 := nv_lt (n := n) (tp := tp) j (10 * v + (tp a - 48)) (a + 1) (fun i h1 h2 => h i (by omega) (by omega))
    show nv tp (10 * v + (tp a - 48)) (a + 1) j < _
    refine Nat.lt_of_lt_of_le h2 ?_
    rw [p10]
    exact Nat.mul_le_mul_right _ (by omega)
theorem lettr {N : Nat} (x : Int32) : (fX3_letterOf N x = some (-1) ∧ fX12_letterOf N x = some (-1)) ∨ ∃ k v, k < 6 ∧ v < 256 ∧ v ≠ 91 ∧ x = nI v ∧ fX3_letterOf N x = some (nI k) ∧ fX12_letterOf N x = some (nI k) := by
  unfold fX3_letterOf fX12_letterOf
  by_cases h1 : x = 99
  · exact Or.inr ⟨0, 99, by omega, by omega, by omega, h1, by rw [if_pos h1]; rfl, by rw [if_pos h1]; rfl⟩
  by_cases h2 : x = 101
  · exact Or.inr ⟨3, 101, by omega, by omega, by omega, h2, by rw [if_neg h1, if_pos h2]; rfl, by rw [if_neg h1, if_neg (by rw [h2]; decide), if_neg (by rw [h2]; decide), if_pos h2]; rfl⟩
  by_cases h3 : x = 108
  · exact Or.inr ⟨2, 108, by omega, by omega, by omega, h3, by rw [if_neg h1, if_neg h2, if_pos h3]; rfl, by rw [if_neg h1, if_neg (by rw [h3]; decide), if_pos h3]; rfl⟩
  by_cases h4 : x = 110
  · exact Or.inr ⟨4, 110, by omega, by omega, by omega, h4, by rw [if_neg h1, if_neg h2, if_neg h3, if_pos h4]; rfl, by rw [if_neg h1, if_neg (by rw [h4]; decide), if_neg h3, if_neg h2, if_pos h4]; rfl⟩
  by_cases h5 : x = 112
  · exact Or.inr ⟨1, 112, by omega, by omega, by omega, h5, by rw [if_neg h1, if_neg h2, if_neg h3, if_neg h4, if_pos h5]; rfl, by rw [if_neg h1, if_pos h5]; rfl⟩
  by_cases h6 : x = 116
  · exact Or.inr ⟨5, 116, by omega, by omega, by omega, h6, by rw [if_neg h1, if_neg h2, if_neg h3, if_neg h4, if_neg h5, if_pos h6]; rfl, by rw [if_neg h1, if_neg h5, if_neg h3, if_neg h2, if_neg h4, if_pos h6]; rfl⟩
  rw [if_neg h1, if_neg h2, if_neg h3, if_neg h4, if_neg h5, if_neg h6, if_neg h1, if_neg h5, if_neg h3, if_neg h2, if_neg h4]
  exact Or.inl ⟨rfl, rfl⟩
theorem m_opens0 {N dp : Nat} {T : SS} (h5 : gi T 52 5 = nI dp) (hd : dp < 6) : fX12_opens N T = some (pj (pj T 52 5 (nI (dp + 1))) 52 3 (gi T 52 3 + 1)) := by
  unfold fX12_opens fX12_opens_j13
  rw [h5, if_neg (fun z => by
    have := (nI_eq (b := 6) (by omega) (by omega)).mp z
    omega), lt_s9, lt_s9, nI_1, gi_ne (by decide)]
theorem m_opens6 {N a : Nat} {T : SS} (h5 : gi T 52 5 = nI 6) (h4 : gi T 52 4 = -1) (h3 : gi T 52 3 = nI a) : ∃ T2, fX12_opens N T = some T2 ∧ gi T2 52 4 = nI a ∧ FP (fun k j => k = 52 ∧ (j = 3 ∨ j = 4 ∨ j = 5)) T T2 := by
  unfold fX12_opens fX12_opens_j13
  rw [h5, if_pos (by decide), bd_s (m_bad1 h4), lt_s9, lt_s9, h3]
  refine ⟨_, rfl, ?_, ((FP.pj ⟨rfl, by omega⟩).tr (FP.pj ⟨rfl, by omega⟩)).tr (FP.pj ⟨rfl, by omega⟩)⟩
  rw [gi_ne (by decide), gi_ne (by decide), gi_pj]
  rfl
/-- a bracket is closed, or the sign for it is wanting -/
theorem closB {n N t a dp w : Nat} {tp : Nat → Nat} {ls : List Int32} {lc : List (Nat × Nat)} {S T : SS} (hN : 250 ≤ N) (hb : tpB n tp) (h : LB n tp t a ls lc (dp + 1) S T) (x : Int32) (hx : x = nI w) (hw : w < 256) :
    (∃ S2 T2, fX9_take N S x = some (S2, 1) ∧ fX12_closes N T x = some T2 ∧ LB n tp t (sk n tp a + 1) ls lc dp S2 T2 ∧ a ≤ sk n tp a ∧ FP lrC S S2 ∧ FP (lrM t) T T2) ∨
    (∃ S2 T2, fX9_take N S x = some (S2, 0) ∧ fX12_closes N T x = some T2 ∧ gi S2 1 2 = nI (sk n tp a) ∧ sk n tp a ≤ n ∧ gi T2 52 4 = nI (sk n tp a) ∧ T2.1 56 t = nI lc.length ∧ FP lrC S S2 ∧ FP (lrM t) T T2) := by
  have hn := hb.1
  obtain ⟨h1, h2, h3, h4, h5, h6, h7, h8⟩ := id h
  obtain ⟨hC, hM, hS, hT, hw4, han⟩ := id h1
  have hsk := sk_le (tp := tp) han
  obtain ⟨T1, t1, t2, t3⟩ := m_look hN hb hM hT han
  have u4 : gi T1 52 4 = -1 := (t2.gi (by simp [atM])).trans hw4
  have u5 : gi T1 52 5 = nI (dp + 1) := (t2.gi (by simp [atM])).trans h5
  have u14 : gi T1 52 14 = nI t := (t2.gi (by simp [atM])).trans h4
  have fin : ∀ T' : SS, ∃ T2, fX12_closes_j20 N T' = some T2 ∧ FP (fun k j => k = 52 ∧ (j = 3 ∨ j = 5)) T' T2 ∧ gi T2 52 3 = gi T' 52 3 + 1 ∧ gi T2 52 5 = gi T' 52 5 - 1 := fun T' => by
    unfold fX12_closes_j20
    rw [lt_s9, lt_s9]
    refine ⟨_, rfl, (FP.pj ⟨rfl, by omega⟩).tr (FP.pj ⟨rfl, by omega⟩), ?_, ?_⟩
    · rw [gi_ne (by decide), gi_pj]
      rfl
    · rw [gi_pj, gi_ne (by decide)]
      rfl
  unfold fX12_closes
  rw [if_pos hw4, b2_s t1]
  rcases c_take hN hb hC hS han x hx hw with ⟨q1, q2, S2, s1, s2, s3⟩ | ⟨q1, S2, s1, s2, s3⟩
  · left
    obtain ⟨T2, y1, y2, y3, y4⟩ := fin T1
    rw [if_pos q1, y1]
    rw [t3, nI_1] at y3
    rw [u5, nI_pred] at y4
    have c1 : tpM n tp T1 := hM.f t2 (by simp [atM]) (by simp [atM])
    refine ⟨S2, T2, s1, rfl, ⟨⟨hC.f s2 (by simp [atC]) (by simp [atC]), c1.f y2 (by omega) (by intro j; omega), s3, y3, (y2.gi (by omega)).trans u4, by omega⟩, h2.f s2 (by simp [atC]) (by simp [atC]), (h3.f t2 (fun k j q => q.1)).f y2 (fun k j q => q.1), (y2.gi (by omega)).trans u14, y4, by omega, h7, by omega⟩, hsk.1, s2.mono (fun k j => atC_lr), (t2.mono (fun k j => atM_lr)).tr (y2.mono (fun k j q => by unfold lrM; omega))⟩
  · right
    rw [if_neg q1, bd_s (m_bad1 u4), t3]
    obtain ⟨T2, y1, y2, y3, y4⟩ := fin (pj T1 52 4 (nI (sk n tp a)))
    rw [y1]
    have fT : FP (lrM t) T T2 := ((t2.mono (fun k j => atM_lr)).tr (FP.pj (by unfold lrM; omega))).tr (y2.mono (fun k j q => by unfold lrM; omega))
    refine ⟨S2, T2, s1, rfl, s3, hsk.2, ?_, ?_, s2.mono (fun k j => atC_lr), fT⟩
    · rw [y2.gi (by omega), gi_pj]
      rfl
    · rw [y2.1 56 t (by omega), pj_ne (by decide), t2.1 56 t (by simp [atM])]
      exact h3.1
