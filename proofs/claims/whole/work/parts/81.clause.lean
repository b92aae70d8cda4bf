/-! a law read by both: clauses -/
def cst (p : Nat) (c s : List (Nat × Nat)) : List Int32 := if c.length = 0 then s.map stI ++ [10020] else c.map stI ++ (nI (20000 + (p + c.length + 1 + s.length + 1)) :: (s.map stI ++ [10020]))
def psC : Nat → List (List (Nat × Nat) × List (Nat × Nat)) → List Int32
  | _, [] => []
  | p, q :: r => cst p q.1 q.2 ++ psC (p + (cst p q.1 q.2).length) r
def cdF : List (List (Nat × Nat) × List (Nat × Nat)) → List (Nat × Nat)
  | [] => []
  | q :: r => (q.1 ++ q.2) ++ cdF r
def rwM (T : SS) (t : Nat) : Nat → Nat → List (List (Nat × Nat) × List (Nat × Nat)) → Prop
  | _, _, [] => True
  | k, o, q :: r => T.1 58 (140 * t + k) = nI o ∧ T.1 59 (140 * t + k) = nI (o + q.1.length) ∧ T.1 60 (140 * t + k) = nI (o + q.1.length + q.2.length) ∧ rwM T t (k + 1) (o + q.1.length + q.2.length) r
def gdC (cs : List (List (Nat × Nat) × List (Nat × Nat))) : Prop := ∀ q, q ∈ cs → (q.1.length = 0 ∨ Boo 18 q.1) ∧ Num 15 q.2
theorem psC_app (q : List (Nat × Nat) × List (Nat × Nat)) : ∀ (cs : List (List (Nat × Nat) × List (Nat × Nat))) (p : Nat), psC p (cs ++ [q]) = psC p cs ++ cst (p + (psC p cs).length) q.1 q.2
  | [], p => by
    show cst p q.1 q.2 ++ [] = [] ++ cst (p + 0) q.1 q.2
    rw [List.append_nil, List.nil_append, Nat.add_zero]
  | x :: r, p => by
    show cst p x.1 x.2 ++ psC _ (r ++ [q]) = (cst p x.1 x.2 ++ psC _ r) ++ cst (p + (cst p x.1 x.2 ++ psC _ r).length) q.1 q.2
    rw [psC_app q r, List.length_append, List.append_assoc, Nat.add_assoc]
theorem cdF_app (q : List (Nat × Nat) × List (Nat × Nat)) : ∀ (cs : List (List (Nat × Nat) × List (Nat × Nat))), cdF (cs ++ [q]) = cdF cs ++ (q.1 ++ q.2)
  | [] => by
    show (q.1 ++ q.2) ++ [] = [] ++ _
    rw [List.append_nil, List.nil_append]
  | x :: r => by
    show (x.1 ++ x.2) ++ cdF (r ++ [q]) = ((x.1 ++ x.2) ++ cdF r) ++ _
    rw [cdF_app q r]
    simp only [List.append_assoc]
theorem rwM_app {T : SS} {t : Nat} (q : List (Nat × Nat) × List (Nat × Nat)) : ∀ (cs : List (List (Nat × Nat) × List (Nat × Nat))) (k o : Nat), rwM T t k o cs → T.1 58 (140 * t + (k + cs.length)) = nI (o + (cdF cs).length) → T.1 59 (140 * t + (k + cs.length)) = nI (o + (cdF cs).length + q.1.length) → T.1 60 (140 * t + (k + cs.length)) = nI (o + (cdF cs).length + q.1.length + q.2.length) → rwM T t k o (cs ++ [q])
  | [], k, o, _, h1, h2, h3 => ⟨h1, h2, h3, trivial⟩
  | x :: r, k, o, h, h1, h2, h3 => by
    obtain ⟨g1, g2, g3, g4⟩ := h
    have el : (cdF (x :: r)).length = x.1.length + x.2.length + (cdF r).length := by
      show ((x.1 ++ x.2) ++ cdF r).length = _
      rw [List.length_append, List.length_append]
    rw [el] at h1 h2 h3
    have ek : k + (x :: r).length = k + 1 + r.length := by
      rw [List.length_cons]
      omega
    rw [ek] at h1 h2 h3
    refine ⟨g1, g2, g3, rwM_app q r (k + 1) (o + x.1.length + x.2.length) g4 ?_ ?_ ?_⟩
    · rw [h1]
      congr 1
      omega
    · rw [h2]
      congr 1
      omega
    · rw [h3]
      congr 1
      omega
theorem rwM_c {T T' : SS} {t : Nat} : ∀ (cs : List (List (Nat × Nat) × List (Nat × Nat))) (k o : Nat), (∀ i, k ≤ i → i < k + cs.length → T'.1 58 (140 * t + i) = T.1 58 (140 * t + i) ∧ T'.1 59 (140 * t + i) = T.1 59 (140 * t + i) ∧ T'.1 60 (140 * t + i) = T.1 60 (140 * t + i)) → rwM T t k o cs → rwM T' t k o cs
  | [], _, _, _, _ => trivial
  | x :: r, k, o, h, hr => by
    obtain ⟨g1, g2, g3, g4⟩ := hr
    have h0 := h k (Nat.le_refl _) (by rw [List.length_cons]; omega)
    exact ⟨h0.1.trans g1, h0.2.1.trans g2, h0.2.2.trans g3, rwM_c r (k + 1) _ (fun i a b => h i (by omega) (by rw [List.length_cons]; omega)) g4⟩
def lcM (t : Nat) (k j : Nat) : Prop := lrM t k j ∨ (k = 57 ∧ j = t) ∨ ((k = 58 ∨ k = 59 ∨ k = 60) ∧ 140 * t ≤ j ∧ j < 140 * (t + 1))
/-- between clauses -/
def LC (n : Nat) (tp : Nat → Nat) (t a : Nat) (cs : List (List (Nat × Nat) × List (Nat × Nat))) (S T : SS) : Prop := Bt n tp a S T ∧ stC S (psC 0 cs) ∧ cdM T t (cdF cs) ∧ gi T 52 14 = nI t ∧ gi T 52 5 = nI 0 ∧ T.1 57 t = nI cs.length ∧ rwM T t 0 0 cs ∧ gdC cs ∧ (psC 0 cs).length + cs.length ≤ a ∧ 2 * cs.length ≤ a ∧ (cdF cs).length ≤ (psC 0 cs).length
theorem m_j251 {N t k c m : Nat} {T : SS} (ht : t ≤ 4) (hk : k < 700) (h14 : gi T 52 14 = nI t) (h56 : T.1 56 t = nI c) (h57 : T.1 57 t = nI m) : ∃ T2, fX12_clause_j251 N (nI k) T = some T2 ∧ T2.1 60 k = nI c ∧ T2.1 57 t = nI (m + 1) ∧ FP (fun a b => (a = 60 ∧ b = k) ∨ (a = 57 ∧ b = t)) T T2 := by
  unfold fX12_clause_j251
  have e1 : ∀ v, gi (pa T 60 (nI k) v) 52 14 = nI t := fun v => h14
  have e2 : ∀ v, ga (pa T 60 (nI k) v) 57 (nI t) = nI m := fun v => by
    rw [ga_nI (by omega)]
    exact h57
  have e3 : ga T 56 (nI t) = nI c := by
    rw [ga_nI (by omega)]
    exact h56
  have ck1 : (nI k).toNatClampNeg = k := nI_clamp (by omega)
  have ck2 : (nI t).toNatClampNeg = t := nI_clamp (by omega)
  rw [h14, e3, ck_in (by omega) (by omega), ck_in hk (by omega), lt_s9, e1, e2, ck_in (by omega) (by omega), ck_in (by omega) (by omega), lt_s9, nI_1]
  refine ⟨_, rfl, ?_, ?_, (FP.pa (Or.inl ⟨rfl, ck1⟩)).tr (FP.pa (Or.inr ⟨rfl, ck2⟩))⟩
  · rw [row_pa, if_neg (by decide), row_pa, if_pos rfl, ck1, pk_us]
  · rw [row_pa, if_pos rfl, ck2, pk_us]
theorem stC_set {S : SS} {l1 l2 : List Int32} {x y : Int32} (h : stC S (l1 ++ x :: l2)) (hl : l1.length < 240) : stC (pa S 13 (nI l1.length) y) (l1 ++ y :: l2) := by
  refine ⟨?_, fun i z hz => ?_⟩
  · show gi S 12 2 = _
    rw [h.1]
    simp
  · rw [row_pa, if_pos rfl, nI_clamp (by omega)]
    by_cases q : i = l1.length
    · rw [q] at hz ⊢
      rw [pk_us]
      rw [List.getElem?_append_right (Nat.le_refl _), Nat.sub_self] at hz
      exact Option.some.inj hz
    · rw [pk_un q]
      apply h.2 i z
      rcases Nat.lt_or_ge i l1.length with q1 | q1
      · rw [List.getElem?_append_left q1] at hz ⊢
        exact hz
      · rw [List.getElem?_append_right q1] at hz ⊢
        obtain ⟨m, hm⟩ : ∃ m, i - l1.length = m + 1 := ⟨i - l1.length - 1, by omega⟩
        rw [hm] at hz ⊢
        exact hz
/-- what a clause comes to -/
def ClR (n : Nat) (tp : Nat → Nat) (t a : Nat) (cs : List (List (Nat × Nat) × List (Nat × Nat))) (S T : SS) (x : Option (SS × Int32)) (y : Option SS) : Prop :=
  (∃ a' q S2 T2, x = some (S2, 1) ∧ y = some T2 ∧ LC n tp t a' (cs ++ [q]) S2 T2 ∧ a < a' ∧ FP lrC S S2 ∧ FP (lcM t) T T2) ∨
  (∃ w S2 T2, x = some (S2, 0) ∧ y = some T2 ∧ w ≤ n ∧ gi S2 1 2 = nI w ∧ gi T2 52 4 = nI w ∧ FP lrC S S2 ∧ FP (lcM t) T T2)
theorem ClR.pre {n t a0 a : Nat} {tp : Nat → Nat} {cs : List (List (Nat × Nat) × List (Nat × Nat))} {S0 T0 S T : SS} {x : Option (SS × Int32)} {y : Option SS} (h : ClR n tp t a cs S T x y) (ha : a0 ≤ a) (fS : FP lrC S0 S) (fT : FP (lcM t) T0 T) : ClR n tp t a0 cs S0 T0 x y := by
  rcases h with ⟨a', q, S2, T2, h1, h2, h3, h4, h5, h6⟩ | ⟨w, S2, T2, h1, h2, h3, h4, h5, h6, h7⟩
  · exact Or.inl ⟨a', q, S2, T2, h1, h2, h3, by omega, fS.tr h5, fT.tr h6⟩
  · exact Or.inr ⟨w, S2, T2, h1, h2, h3, h4, h5, fS.tr h6, fT.tr h7⟩
theorem lr_lc {t k j : Nat} (h : lrM t k j) : lcM t k j := Or.inl h
/-- what stands of the clauses before, while one is read -/
def LK (t : Nat) (cs : List (List (Nat × Nat) × List (Nat × Nat))) (T : SS) : Prop := T.1 57 t = nI cs.length ∧ rwM T t 0 0 cs ∧ T.1 58 (140 * t + cs.length) = nI (cdF cs).length
theorem LK.f {t : Nat} {cs : List (List (Nat × Nat) × List (Nat × Nat))} {T T' : SS} {P : Nat → Nat → Prop} (h : LK t cs T) (hf : FP P T T') (hP : ∀ k j, P k j → ¬ (k = 57 ∧ j = t) ∧ k ≠ 58 ∧ (k = 59 ∨ k = 60 → j = 140 * t + cs.length)) : LK t cs T' := by
  obtain ⟨h1, h2, h3⟩ := h
  refine ⟨(hf.1 57 t (fun q => (hP _ _ q).1 ⟨rfl, rfl⟩)).trans h1, rwM_c cs 0 0 (fun i _ hi => ⟨hf.1 _ _ (fun q => (hP _ _ q).2.1 rfl), hf.1 _ _ (fun q => ?_), hf.1 _ _ (fun q => ?_)⟩) h2, (hf.1 _ _ (fun q => (hP _ _ q).2.1 rfl)).trans h3⟩
  · have := (hP _ _ q).2.2 (Or.inl rfl)
    omega
  · have := (hP _ _ q).2.2 (Or.inr rfl)
    omega
theorem lr_LK {t : Nat} {cs : List (List (Nat × Nat) × List (Nat × Nat))} : ∀ k j, lrM t k j → ¬ (k = 57 ∧ j = t) ∧ k ≠ 58 ∧ (k = 59 ∨ k = 60 → j = 140 * t + cs.length) := fun k j q => by
  unfold lrM at q
  omega
/-- a clause with its condition read: the sign, the sum -/
theorem x_tailQ {n N t a0 a1 : Nat} {tp : Nat → Nat} {cs : List (List (Nat × Nat) × List (Nat × Nat))} {c : List (Nat × Nat)} {S0 T0 S T : SS} (hN : 250 ≤ N) (hb : tpB n tp) (ht : t ≤ 4) (h : LB n tp t a1 (psC 0 cs ++ c.map stI) (cdF cs ++ c) 0 S T) (hk : LK t cs T) (hg : gdC cs) (hc : Boo 18 c) (hlen : (psC 0 cs).length + cs.length ≤ a0) (hlen2 : 2 * cs.length ≤ a0) (hlen3 : (cdF cs).length ≤ (psC 0 cs).length) (ha : a0 + 2 + c.length ≤ a1) (fS : FP lrC S0 S) (fT : FP (lcM t) T0 T) :
    ClR n tp t a0 cs S0 T0 (b2 (fX9_take N S 63) fun S7 r6 => if r6 = 0 then some (S7, 0) else lt (gi S7 12 2) fun v9 => bd (fX3_write N S7 20000) fun S11 => b2 (fX3_readSum N 9 S11 0) fun S14 r13 => if r13 = 0 then some (S14, 0) else bd (fX3_write N S14 10020) fun S17 => if 240 ≤ v9 then some (S17, 1) else ck (inb v9 240) <| lt (pa S17 13 v9 (20000 + (gi S17 12 2))) fun S20 => some (S20, 1)) (fX12_clause_j184 N (nI (140 * t + cs.length)) 1 T) := by
  have hn := hb.1
  have han := h.1.2.2.2.2.2
  have kB : 140 * t + cs.length < 700 := by omega
  have ckk : (nI (140 * t + cs.length)).toNatClampNeg = 140 * t + cs.length := nI_clamp (by omega)
  unfold fX12_clause_j184
  rw [ck_in kB (by omega), ck_in kB (by omega), lt_s9, if_neg n10]
  -- the row of the clause's sum, for the while
  have f59 : FP (fun a b => a = 59 ∧ b = 140 * t + cs.length) T (pa T 59 (nI (140 * t + cs.length)) (ga T 58 (nI (140 * t + cs.length)))) := FP.pa ⟨rfl, ckk⟩
  revert f59
  generalize pa T 59 (nI (140 * t + cs.length)) (ga T 58 (nI (140 * t + cs.length))) = T3
  intro f59
  have l59 : ∀ k j, (k = 59 ∧ j = 140 * t + cs.length) → lcM t k j := fun k j q => by
    unfold lcM
    omega
  have k59 : ∀ k j, (k = 59 ∧ j = 140 * t + cs.length) → ¬ (k = 57 ∧ j = t) ∧ k ≠ 58 ∧ (k = 59 ∨ k = 60 → j = 140 * t + cs.length) := fun k j q => by omega
  have b3 : LB n tp t a1 (psC 0 cs ++ c.map stI) (cdF cs ++ c) 0 S T3 := by
    obtain ⟨g1, g2, g3, g4, g5, g6, g7, g8⟩ := h
    refine ⟨g1.f (FP.rf (P := fun _ _ => False)) f59 (fun q => q) (fun _ q => q) (fun q => q) (by omega) (by intro j; omega) (by omega) (by omega), g2, ⟨(f59.1 56 t (by omega)).trans g3.1, fun i o ho => ⟨(f59.1 54 _ (by omega)).trans (g3.2 i o ho).1, (f59.1 55 _ (by omega)).trans (g3.2 i o ho).2⟩⟩, (f59.gi (by omega)).trans g4, (f59.gi (by omega)).trans g5, g6, g7, g8⟩
  have hk3 : LK t cs T3 := hk.f f59 k59
  have fT3 : FP (lcM t) T0 T3 := fT.tr (f59.mono l59)
  rw [if_pos b3.1.2.2.2.2.1]
  obtain ⟨T8, t1, t2, hA, hcase⟩ := LB.take (w := 63) hN hb b3 63 rfl (by omega)
  rw [b2_s t1]
  have fT8 : FP (lcM t) T0 T8 := fT3.tr (t2.mono (fun k j q => lr_lc (atM_lr q)))
  rcases hcase with ⟨c1, S7, s1, s2, b8, hlt⟩ | ⟨c1, S7, s1, s2, b8⟩
  · rw [b2_s s1, if_neg n10, if_pos c1, lt_s9, lt_s9]
    have q9 : FP atM T8 (pj T8 52 3 (gi T8 52 3 + 1)) := FP.pj ⟨rfl, rfl⟩
    have fT9 : FP (lcM t) T0 (pj T8 52 3 (gi T8 52 3 + 1)) := fT8.tr (q9.mono (fun k j q => lr_lc (atM_lr q)))
    have hk9 : LK t cs (pj T8 52 3 (gi T8 52 3 + 1)) := (hk3.f t2 (fun k j q => lr_LK k j (atM_lr q))).f q9 (fun k j q => lr_LK k j (atM_lr q))
    revert b8 fT9 hk9
    generalize pj T8 52 3 (gi T8 52 3 + 1) = T9
    intro b8 fT9 hk9
    generalize sk n tp a1 = A at *
    have g14 := b8.2.2.2.1
    have g56 : ga T9 56 (nI t) = nI (cdF cs ++ c).length := by
      rw [ga_nI (by omega)]
      exact b8.2.2.1.1
    have hl7 : gi S7 12 2 = nI (psC 0 cs ++ c.map stI).length := b8.2.1.1
    have hlen7 : (psC 0 cs ++ c.map stI).length = (psC 0 cs).length + c.length := by
      rw [List.length_append, List.length_map]
    have hlc7 : (cdF cs ++ c).length = (cdF cs).length + c.length := List.length_append
    rw [g14, ck_in (by omega) (by omega), ck_in kB (by omega), lt_s9, g56, hl7]
    have f60 : FP (fun a b => a = 59 ∧ b = 140 * t + cs.length) T9 (pa T9 59 (nI (140 * t + cs.length)) (nI (cdF cs ++ c).length)) := FP.pa ⟨rfl, ckk⟩
    have v60 : (pa T9 59 (nI (140 * t + cs.length)) (nI (cdF cs ++ c).length)).1 59 (140 * t + cs.length) = nI (cdF cs ++ c).length := by
      rw [row_pa, if_pos rfl, ckk, pk_us]
    revert f60 v60
    generalize pa T9 59 (nI (140 * t + cs.length)) (nI (cdF cs ++ c).length) = T10
    intro f60 v60
    obtain ⟨S11, w1, w2, w3⟩ := c_wrt (N := N) (x := 20000) b8.2.1 (by omega)
    rw [bd_s w1]
    have hk10 : LK t cs T10 := hk9.f f60 k59
    have b11 : LB n tp t (A + 1) (psC 0 cs ++ c.map stI ++ [20000]) (cdF cs ++ c) 0 S11 T10 := by
      obtain ⟨g1, g2, g3, g4, g5, g6, g7, g8⟩ := b8
      refine ⟨g1.f w3 f60 (by unfold wrC; omega) (by unfold wrC; intro j; omega) (by unfold wrC; omega) (by omega) (by intro j; omega) (by omega) (by omega), w2, ⟨(f60.1 56 t (by omega)).trans g3.1, fun i o ho => ⟨(f60.1 54 _ (by omega)).trans (g3.2 i o ho).1, (f60.1 55 _ (by omega)).trans (g3.2 i o ho).2⟩⟩, (f60.gi (by omega)).trans g4, (f60.gi (by omega)).trans g5, ?_, ?_, by omega⟩
      · rw [List.length_append, hlen7]
        simp
        omega
      · rw [hlc7, List.length_append, hlen7]
        simp
        omega
    have fS11 : FP lrC S0 S11 := (fS.tr s2).tr (w3.mono (fun k j => wrC_lr))
    have fT10 : FP (lcM t) T0 T10 := fT9.tr (f60.mono l59)
    have xs := x_sum hN hb ht 9 0 _ _ _ _ _ (by omega) (by omega) b11
    rcases xs with ⟨a3, s, S14, T15, y1, y2, y3, y4, y5, y6, y7⟩ | ⟨w, S14, T15, c', y1, y2, y3, y4, y5, y6, y7, y8, y9⟩
    · have y1' : fX3_readSum N 9 S11 0 = some (S14, 1) := y1
      have hls : (psC 0 cs ++ c.map stI ++ [20000] ++ s.map stI).length = (psC 0 cs).length + c.length + 1 + s.length := by
        rw [List.length_append, List.length_append, hlen7, List.length_map]
        rfl
      obtain ⟨S17, z1, z2, z3⟩ := c_wrt (N := N) (x := 10020) y3.2.1 (by
        have := y3.1.2.2.2.2.2
        omega)
      rw [b2_s y1', if_neg n10, bd_s z1, if_neg (show ¬ (240 : Int32) ≤ nI (psC 0 cs ++ c.map stI).length from nI_ge (b := 240) (by omega) (by omega)), ck_in (by omega) (by omega), lt_s9, bd_s y2]
      have hk15 : LK t cs T15 := hk10.f y7 lr_LK
      obtain ⟨T6, x1, x2, x3, x4⟩ := m_j251 (N := N) (k := 140 * t + cs.length) ht kB y3.2.2.2.1 y3.2.2.1.1 hk15.1
      rw [x1]
      have hl17 : (psC 0 cs ++ c.map stI ++ [20000] ++ s.map stI ++ [10020]).length = (psC 0 cs).length + c.length + 1 + s.length + 1 := by
        rw [List.length_append, hls]
        rfl
      have e17 : psC 0 cs ++ c.map stI ++ [20000] ++ s.map stI ++ [10020] = (psC 0 cs ++ c.map stI) ++ (20000 : Int32) :: (s.map stI ++ [10020]) := by
        simp [List.append_assoc]
      have g17 : gi S17 12 2 = nI ((psC 0 cs).length + c.length + 1 + s.length + 1) := by
        rw [z2.1, hl17]
      rw [g17]
      have z2' := z2
      rw [e17] at z2'
      have hset := stC_set (y := 20000 + nI ((psC 0 cs).length + c.length + 1 + s.length + 1)) z2' (by omega)
      have hcl : 0 < c.length := boo_ne hc
      have efin : psC 0 (cs ++ [(c, s)]) = (psC 0 cs ++ c.map stI) ++ (20000 + nI ((psC 0 cs).length + c.length + 1 + s.length + 1)) :: (s.map stI ++ [10020]) := by
        rw [psC_app]
        unfold cst
        rw [if_neg (show ¬ c.length = 0 by omega), List.append_assoc, Nat.zero_add]
        congr 2
        exact congrArg (fun z => z :: (s.map stI ++ [10020])) (nI_add 20000 ((psC 0 cs).length + c.length + 1 + s.length + 1)).symm
      have ecd : cdF (cs ++ [(c, s)]) = cdF cs ++ c ++ s := by
        rw [cdF_app, List.append_assoc]
      have elc : (cdF cs ++ c ++ s).length = (cdF cs).length + c.length + s.length := by
        rw [List.length_append, hlc7]
      have fSf : FP wrC S14 (pa S17 13 (nI (psC 0 cs ++ c.map stI).length) (20000 + nI ((psC 0 cs).length + c.length + 1 + s.length + 1))) := z3.tr (FP.pa (Or.inr rfl))
      have y15 := y3.1
      refine Or.inl ⟨a3, (c, s), _, T6, rfl, rfl, ⟨y15.f fSf x4 (by unfold wrC; omega) (by unfold wrC; intro j; omega) (by unfold wrC; omega) (by omega) (by intro j; omega) (by omega) (by omega), ?_, ?_, (x4.gi (by omega)).trans y3.2.2.2.1, (x4.gi (by omega)).trans y3.2.2.2.2.1, ?_, ?_, ?_, ?_, ?_, ?_⟩, by omega, (fS11.tr y6).tr (fSf.mono (fun k j => wrC_lr)), (fT10.tr (y7.mono (fun k j => lr_lc))).tr (x4.mono (fun k j q => by unfold lcM; omega))⟩
      · rw [efin]
        exact hset
      · rw [ecd]
        have y23 := y3.2.2.1
        exact ⟨(x4.1 56 t (by omega)).trans y23.1, fun i o ho => ⟨(x4.1 54 _ (by omega)).trans (y23.2 i o ho).1, (x4.1 55 _ (by omega)).trans (y23.2 i o ho).2⟩⟩
      · rw [x3]
        simp
      · have hk6 : LK t cs T15 := hk15
        refine rwM_app (c, s) cs 0 0 (rwM_c cs 0 0 (fun i _ hi => ⟨x4.1 _ _ (by omega), x4.1 _ _ (by omega), x4.1 _ _ (by omega)⟩) hk15.2.1) ?_ ?_ ?_
        · rw [Nat.zero_add, Nat.zero_add, x4.1 58 _ (by omega)]
          exact hk15.2.2
        · rw [Nat.zero_add, Nat.zero_add, x4.1 59 _ (by omega), y7.1 59 _ (by unfold lrM; omega), v60, hlc7]
        · rw [Nat.zero_add, Nat.zero_add, x2, elc]
      · intro q hq
        rcases List.mem_append.mp hq with q1 | q1
        · exact hg q q1
        · rw [List.mem_singleton.mp q1]
          exact ⟨Or.inr hc, y5⟩
      · rw [efin, List.length_append, hlen7, List.length_cons, List.length_append, List.length_map, List.length_append]
        simp
        omega
      · rw [List.length_append]
        simp
        omega
      · rw [efin, ecd, elc, List.length_append, hlen7, List.length_cons, List.length_append, List.length_map]
        simp
        omega
    · have y1' : fX3_readSum N 9 S11 0 = some (S14, 0) := y1
      rw [b2_s y1', if_pos rfl, bd_s y2]
      have hk15 : LK t cs T15 := hk10.f y9 lr_LK
      obtain ⟨T6, x1, x2, x3, x4⟩ := m_j251 (N := N) (k := 140 * t + cs.length) ht kB ((y9.gi (by unfold lrM; omega)).trans b11.2.2.2.1) y6 hk15.1
      rw [x1]
      exact Or.inr ⟨w, S14, T6, rfl, rfl, y3, y4, (x4.gi (by omega)).trans y5, fS11.tr y8, (fT10.tr (y9.mono (fun k j => lr_lc))).tr (x4.mono (fun k j q => by unfold lcM; omega))⟩
  · rw [b2_s s1, if_pos rfl, if_neg c1, bd_s (m_bad1 b8.1.2.2.2.2.1), b8.1.2.2.2.1]
    exact Or.inr ⟨_, S7, _, rfl, rfl, b8.1.2.2.2.2.2, b8.1.2.2.1, by rw [gi_pj]; rfl, fS.tr s2, fT8.tr (FP.pj (by unfold lcM lrM; omega))⟩
