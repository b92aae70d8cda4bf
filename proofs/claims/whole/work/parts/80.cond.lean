/-! a law read by both: conditions -/
theorem bd_as {α β γ : Type} (x : Option α) (f : α → Option β) (g : β → Option γ) : bd (bd x f) g = bd x (fun a => bd (f a) g) := by cases x <;> rfl
theorem signs {N : Nat} (x : Int32) : fX12_isSign N x = fX3_isComparison N x ∧ ((fX3_isComparison N x = some 0 ∧ ¬ x = 61 ∧ ¬ x = 60 ∧ ¬ x = 62) ∨ (fX3_isComparison N x = some 1 ∧ ∃ v c, v < 256 ∧ x = nI v ∧ 6 ≤ c ∧ c ≤ 8 ∧ (∀ S, (if x = 61 then fX3_readComparison_j68 N 10014 S else (if x = 60 then fX3_readComparison_j68 N 10015 S else fX3_readComparison_j68 N 10016 S)) = fX3_readComparison_j68 N (stI (c, 0)) S) ∧ ∀ T, (if x = 61 then fX12_compare_j68 N 6 T else (if x = 60 then fX12_compare_j68 N 7 T else fX12_compare_j68 N 8 T)) = fX12_compare_j68 N (nI c) T)) := by
  refine ⟨rfl, ?_⟩
  unfold fX3_isComparison
  by_cases h1 : x = 61
  · rw [if_pos h1]
    exact Or.inr ⟨rfl, 61, 6, by omega, h1, by omega, by omega, fun S => if_pos h1, fun T => if_pos h1⟩
  by_cases h2 : x = 60
  · rw [if_neg h1, if_pos h2]
    exact Or.inr ⟨rfl, 60, 7, by omega, h2, by omega, by omega, fun S => by rw [if_neg h1, if_pos h2]; rfl, fun T => by rw [if_neg h1, if_pos h2]; rfl⟩
  by_cases h3 : x = 62
  · rw [if_neg h1, if_neg h2, if_pos h3]
    exact Or.inr ⟨rfl, 62, 8, by omega, h3, by omega, by omega, fun S => by rw [if_neg h1, if_neg h2]; rfl, fun T => by rw [if_neg h1, if_neg h2]; rfl⟩
  rw [if_neg h1, if_neg h2, if_neg h3]
  exact Or.inl ⟨rfl, h1, h2, h3⟩
theorem x_cmp {n N t dp a : Nat} {tp : Nat → Nat} {ls : List Int32} {lc : List (Nat × Nat)} {S T : SS} (hN : 250 ≤ N) (hb : tpB n tp) (ht : t ≤ 4) (hd : dp ≤ 6) (h : LB n tp t a ls lc dp S T) : Res n tp t a ls lc dp (fun ops => ∀ o0, Num (15 - 2 * dp) o0 → Boo (16 - 2 * dp) (o0 ++ ops)) (16 - 2 * dp) S T (fX3_readComparison N S (nI dp)) (fX12_compare N T) := by
  have hn := hb.1
  obtain ⟨S3, T3, s1, t1, s2, t2, b3, hA⟩ := h.look hN hb
  refine Res.pre ?_ hA (s2.mono (fun k j => atC_lr)) (t2.mono (fun k j => atM_lr))
  unfold fX3_readComparison fX12_compare fX12_compare_j16
  rw [b2_s s1, if_pos h.1.2.2.2.2.1, b2_s t1]
  generalize sk n tp a = A at *
  have hl3 := lc_le hb b3
  obtain ⟨⟨hC, hM, hS, hT, h4, hAn⟩, g2, g3, g4, g5, g6, g7, g8⟩ := id b3
  obtain ⟨e0, e1⟩ := signs (N := N) (ch n tp A)
  rw [e0]
  rcases e1 with ⟨e1, _⟩ | ⟨e1, v, c, v1, v2, c1, c2, eC, eM⟩
  · rw [bd_s e1, bd_s e1, if_pos rfl, if_pos rfl, bd_s (m_bad1 h4), hT]
    exact Or.inr ⟨A, S3, _, lc.length, rfl, rfl, hAn, hS, by rw [gi_pj]; rfl, by rw [pj_ne (by decide)]; exact g3.1, by omega, FP.rf, FP.pj (by unfold lrM; omega)⟩
  · have hlt : A < n := (ch_in v1 v2).1
    have b5 := b3.step hlt
    have f5 : FP lrC S3 (pj S3 1 2 (gi S3 1 2 + 1)) := FP.pj (Or.inl ⟨rfl, rfl⟩)
    have q5 : FP (lrM t) T3 (pj T3 52 3 (gi T3 52 3 + 1)) := FP.pj (by unfold lrM; omega)
    rw [bd_s e1, bd_s e1, if_neg n10, if_neg n10, lt_s9, lt_s9]
    rcases x_sum hN hb ht 9 dp _ _ _ _ _ hd (by omega) b5 with ⟨a1, ops, S2, T2, y1, y2, y3, y4, y5, y6, y7⟩ | ⟨w, S2, T2, c', y1, y2, y3, y4, y5, y6, y7, y8, y9⟩
    · rw [b2_s y1, bd_s y2, if_neg n10, eC, eM]
      have hl : (ls ++ ops.map stI).length < a1 := by
        rw [List.length_append, List.length_map]
        omega
      obtain ⟨S6, T6, z1, z2, z3, z4, z5⟩ := LB.wr (N := N) hb ht y3 hl (c, 0)
      have z2' : fX12_put N T2 (nI c) 0 = some T6 := z2
      unfold fX3_readComparison_j68 fX12_compare_j68
      rw [bd_s z1, bd_s z2']
      refine Or.inl ⟨a1, ops ++ [(c, 0)], S6, T6, rfl, rfl, ?_, by rw [List.length_append]; simp; omega, fun o0 h0 => boo_cmp h0 y5 (by omega) (by omega) c1 c2, (f5.tr y6).tr (z3.mono (fun k j => wrC_lr)), (q5.tr y7).tr (z4.mono (fun k j => puM_lr))⟩
      rw [List.map_append, ← List.append_assoc, ← List.append_assoc]
      exact z5
    · rw [b2_s y1, bd_s y2, if_pos rfl, eM]
      have g14 : gi T2 52 14 = nI t := (y9.gi (by unfold lrM; omega)).trans b5.2.2.2.1
      obtain ⟨T6, x1, x2, x3', x4, x5⟩ := m_putB (N := N) (x := nI c) (y := 0) ht g14 y6 (by omega) y5
      unfold fX12_compare_j68
      rw [bd_s x1]
      exact Or.inr ⟨w, S2, T6, _, rfl, rfl, y3, y4, x3', x2, by omega, f5.tr y8, (q5.tr y9).tr (x5.mono (fun k j => puM_lr))⟩
/-- a sign is taken in the class; the reference looks and goes on -/
theorem LB.take {n N t a dp w : Nat} {tp : Nat → Nat} {ls : List Int32} {lc : List (Nat × Nat)} {S T : SS} (hN : 250 ≤ N) (hb : tpB n tp) (h : LB n tp t a ls lc dp S T) (x : Int32) (hx : x = nI w) (hw : w < 256) : ∃ T4, fX12_look N T = some (T4, ch n tp (sk n tp a)) ∧ FP atM T T4 ∧ a ≤ sk n tp a ∧
    ((ch n tp (sk n tp a) = x ∧ ∃ S2, fX9_take N S x = some (S2, 1) ∧ FP lrC S S2 ∧ LB n tp t (sk n tp a + 1) ls lc dp S2 (pj T4 52 3 (gi T4 52 3 + 1)) ∧ sk n tp a < n) ∨ (¬ ch n tp (sk n tp a) = x ∧ ∃ S2, fX9_take N S x = some (S2, 0) ∧ FP lrC S S2 ∧ LB n tp t (sk n tp a) ls lc dp S2 T4)) := by
  obtain ⟨S3, T3, s1, t1, s2, t2, b3, hA⟩ := h.look hN hb
  refine ⟨T3, t1, t2, hA, ?_⟩
  unfold fX9_take
  rw [b2_s s1]
  by_cases q : ch n tp (sk n tp a) = x
  · have hlt := (ch_in hw (q.trans hx)).1
    rw [if_pos q, lt_s9]
    exact Or.inl ⟨q, _, rfl, (s2.mono (fun k j => atC_lr)).tr (FP.pj (Or.inl ⟨rfl, rfl⟩)), b3.step hlt, hlt⟩
  · rw [if_neg q]
    exact Or.inr ⟨q, S3, rfl, s2.mono (fun k j => atC_lr), b3⟩
theorem x_and {n N t dp kU uU : Nat} {tp : Nat → Nat} {recC : SS → Int32 → Option (SS × Int32)} {recM : SS → Option SS} (hN : 250 ≤ N) (hb : tpB n tp) (ht : t ≤ 4) (hu2 : uU ≤ 100)
    (hat : ∀ a ls lc S T, LB n tp t a ls lc dp S T → Res n tp t a ls lc dp (Boo kU) uU S T (recC S (nI dp)) (recM T)) :
    ∀ (f i a : Nat) (ls : List Int32) (lc : List (Nat × Nat)) (S T : SS), LB n tp t a ls lc dp S T → i < a → n - a < f → Res n tp t a ls lc dp (fun ops => ∀ o0, Boo (kU + 1) o0 → Boo (kU + 1) (o0 ++ ops)) (uU + 1) S T (fX3_readTruth_l27 N recC f (nI dp) (nI i) S) (fX12_goOnAnd_l0 N recM f T) := by
  have hn := hb.1
  intro f
  induction f with
  | zero =>
    intro i a ls lc S T h hi hf
    omega
  | succ f ih =>
    intro i a ls lc S T h hi hf
    have han := h.1.2.2.2.2.2
    obtain ⟨T4, t1, t2, hA, hcase⟩ := LB.take (w := 38) hN hb h 38 rfl (by omega)
    unfold fX3_readTruth_l27 fX12_goOnAnd_l0
    rw [if_neg (show ¬ (240 : Int32) ≤ nI i from nI_ge (b := 240) (by omega) (by omega)), if_pos h.1.2.2.2.2.1, b2_s t1]
    rcases hcase with ⟨c1, S4, s1, s2, b5, hlt⟩ | ⟨c1, S4, s1, s2, b4⟩
    · rw [b2_s s1, if_neg n10, if_pos c1, lt_s9]
      have q5 : FP (lrM t) T (pj T4 52 3 (gi T4 52 3 + 1)) := (t2.mono (fun k j => atM_lr)).tr (FP.pj (by unfold lrM; omega))
      have g6 := h.2.2.2.2.2.1
      rcases hat _ _ _ _ _ b5 with ⟨a1, ops, S2, T2, y1, y2, y3, y4, y5, y6, y7⟩ | ⟨w, S2, T2, c', y1, y2, y3, y4, y5, y6, y7, y8, y9⟩
      · have hl : (ls ++ ops.map stI).length < a1 := by
          rw [List.length_append, List.length_map]
          omega
        obtain ⟨S6, T6, z1, z2, z3, z4, z5⟩ := LB.wr (N := N) hb ht y3 hl (10, 0)
        have z1' : fX3_write N S2 10017 = some S6 := z1
        have z2' : fX12_put N T2 10 0 = some T6 := z2
        rw [b2_s y1, bd_s y2, if_neg n10, bd_s z1', bd_s z2', lt_s9, nI_1]
        have r := ih (i + 1) a1 _ _ S6 T6 z5 (by omega) (by omega)
        have e1 : ls ++ ops.map stI ++ [stI (10, 0)] = ls ++ (ops ++ [(10, 0)]).map stI := by
          rw [List.map_append, List.append_assoc]
          rfl
        have e2 : lc ++ ops ++ [(10, 0)] = lc ++ (ops ++ [(10, 0)]) := List.append_assoc ..
        rw [e1, e2] at r
        refine r.app (by rw [List.length_append]; simp; omega) (fun o ho o0 h0 => ?_) ((s2.tr y6).tr (z3.mono (fun k j => wrC_lr))) ((q5.tr y7).tr (z4.mono (fun k j => puM_lr)))
        rw [← List.append_assoc]
        exact ho _ (boo_bin h0 y5 (by omega) (by omega) (Or.inl rfl))
      · have g14 : gi T2 52 14 = nI t := (y9.gi (by unfold lrM; omega)).trans b5.2.2.2.1
        obtain ⟨T6, x1, x2, x3', x4, x5⟩ := m_putB (N := N) (x := 10) (y := 0) ht g14 y6 (by omega) y5
        rw [b2_s y1, bd_s y2, if_pos rfl, bd_s x1]
        obtain ⟨f, rfl⟩ : ∃ q, f = q + 1 := ⟨f - 1, by omega⟩
        unfold fX12_goOnAnd_l0
        rw [if_neg (show ¬ gi T6 52 4 = -1 by rw [x3']; exact nI_m1 (by omega))]
        exact Or.inr ⟨w, S2, T6, _, rfl, rfl, y3, y4, x3', x2, by omega, s2.tr y8, (q5.tr y9).tr (x5.mono (fun k j => puM_lr))⟩
    · rw [b2_s s1, if_pos rfl, if_neg c1]
      refine Or.inl ⟨_, [], S4, T4, rfl, rfl, ?_, by simp; exact hA, fun o0 h0 => ?_, s2, t2.mono (fun k j => atM_lr)⟩
      · rw [List.map_nil, List.append_nil, List.append_nil]
        exact b4
      · rw [List.append_nil]
        exact h0
theorem and_bad {N w : Nat} {recM : SS → Option SS} {T : SS} (hN : 250 ≤ N) (hw : w < 2 ^ 31) (h : gi T 52 4 = nI w) : fX12_goOnAnd N recM T = some T ∧ fX12_goOnOr N recM T = some T := by
  obtain ⟨M, rfl⟩ : ∃ q, N = q + 1 := ⟨N - 1, by omega⟩
  unfold fX12_goOnAnd fX12_goOnOr fX12_goOnAnd_l0 fX12_goOnOr_l0
  rw [if_neg (by rw [h]; exact nI_m1 hw), if_neg (by rw [h]; exact nI_m1 hw)]
  exact ⟨rfl, rfl⟩
/-- behind the first unit, whatever it was -/
theorem x_truthG {n N t dp kU uU a : Nat} {tp : Nat → Nat} {recC : SS → Int32 → Option (SS × Int32)} {recM : SS → Option SS} {P0 : List (Nat × Nat) → Prop} {Q : List (Nat × Nat) → List (Nat × Nat) → Prop} {x : Option (SS × Int32)} {y : Option SS} {ls : List Int32} {lc : List (Nat × Nat)} {S T : SS} (hN : 250 ≤ N) (hb : tpB n tp) (ht : t ≤ 4) (hu2 : uU ≤ 100)
    (hat : ∀ a ls lc S T, LB n tp t a ls lc dp S T → Res n tp t a ls lc dp (Boo kU) uU S T (recC S (nI dp)) (recM T))
    (h0 : Res n tp t a ls lc dp P0 uU S T x y) : Res n tp t a ls lc dp (fun ops => ∃ o1 o2, ops = o1 ++ o2 ∧ P0 o1 ∧ ∀ o0, Boo (kU + 1) o0 → Boo (kU + 1) (o0 ++ o2)) (uU + 1) S T (b2 x fun S4 r3 => if r3 = 0 then some (S4, 0) else fX3_readTruth_l27 N recC N (nI dp) 0 S4) (bd y fun T2 => fX12_goOnAnd N recM T2) := by
  have hn := hb.1
  rcases h0 with ⟨a1, ops, S2, T2, y1, y2, y3, y4, y5, y6, y7⟩ | ⟨w, S2, T2, c', y1, y2, y3, y4, y5, y6, y7, y8, y9⟩
  · rw [b2_s y1, bd_s y2, if_neg n10]
    have r := x_and hN hb ht hu2 hat N 0 a1 _ _ S2 T2 y3 y3.2.2.2.2.2.2.2 (by omega)
    exact r.app y4 (fun o ho => ⟨ops, o, rfl, y5, ho⟩) y6 y7
  · rw [b2_s y1, bd_s y2, if_pos rfl, (and_bad hN (by omega) y5).1]
    exact Or.inr ⟨w, S2, T2, c', rfl, rfl, y3, y4, y5, y6, by omega, y8, y9⟩
theorem x_truth {n N t dp kU uU a : Nat} {tp : Nat → Nat} {recC : SS → Int32 → Option (SS × Int32)} {recM : SS → Option SS} {ls : List Int32} {lc : List (Nat × Nat)} {S T : SS} (hN : 250 ≤ N) (hb : tpB n tp) (ht : t ≤ 4) (hu2 : uU ≤ 100)
    (hat : ∀ a ls lc S T, LB n tp t a ls lc dp S T → Res n tp t a ls lc dp (Boo kU) uU S T (recC S (nI dp)) (recM T))
    (h : LB n tp t a ls lc dp S T) : Res n tp t a ls lc dp (Boo (kU + 1)) (uU + 1) S T (fX3_readTruth N recC S (nI dp) 0) (bd (recM T) fun T2 => fX12_goOnAnd N recM T2) := by
  unfold fX3_readTruth
  rw [if_pos rfl]
  refine (x_truthG (Q := fun _ _ => True) hN hb ht hu2 hat (hat _ _ _ _ _ h)).pu (fun o ho => ?_) (Nat.le_refl _)
  obtain ⟨o1, o2, rfl, q1, q2⟩ := ho
  exact q2 o1 (q1.mono (by omega))
theorem x_or {n N t dp kU uU : Nat} {tp : Nat → Nat} {recC : SS → Int32 → Option (SS × Int32)} {recM : SS → Option SS} (hN : 250 ≤ N) (hb : tpB n tp) (ht : t ≤ 4) (hu2 : uU ≤ 100)
    (hat : ∀ a ls lc S T, LB n tp t a ls lc dp S T → Res n tp t a ls lc dp (Boo kU) uU S T (recC S (nI dp)) (recM T)) :
    ∀ (f i a : Nat) (ls : List Int32) (lc : List (Nat × Nat)) (S T : SS), LB n tp t a ls lc dp S T → i < a → n - a < f → Res n tp t a ls lc dp (fun ops => ∀ o0, Boo (kU + 2) o0 → Boo (kU + 2) (o0 ++ ops)) (uU + 2) S T (fX3_readCondition_l13 N recC f (nI dp) (nI i) S) (fX12_goOnOr_l0 N recM f T) := by
  have hn := hb.1
  intro f
  induction f with
  | zero =>
    intro i a ls lc S T h hi hf
    omega
  | succ f ih =>
    intro i a ls lc S T h hi hf
    have han := h.1.2.2.2.2.2
    obtain ⟨T4, t1, t2, hA, hcase⟩ := LB.take (w := 124) hN hb h 124 rfl (by omega)
    unfold fX3_readCondition_l13 fX12_goOnOr_l0
    rw [if_neg (show ¬ (240 : Int32) ≤ nI i from nI_ge (b := 240) (by omega) (by omega)), if_pos h.1.2.2.2.2.1, b2_s t1]
    rcases hcase with ⟨c1, S4, s1, s2, b5, hlt⟩ | ⟨c1, S4, s1, s2, b4⟩
    · rw [b2_s s1, if_neg n10, if_pos c1, lt_s9]
      have q5 : FP (lrM t) T (pj T4 52 3 (gi T4 52 3 + 1)) := (t2.mono (fun k j => atM_lr)).tr (FP.pj (by unfold lrM; omega))
      have g6 := h.2.2.2.2.2.1
      have eA : ∀ g : SS → Option SS, (bd (recM (pj T4 52 3 (gi T4 52 3 + 1))) fun T8 => bd (fX12_goOnAnd N recM T8) g) = bd (bd (recM (pj T4 52 3 (gi T4 52 3 + 1))) fun T2 => fX12_goOnAnd N recM T2) g := fun g => (bd_as _ _ _).symm
      rw [eA]
      rcases x_truth hN hb ht hu2 hat b5 with ⟨a1, ops, S2, T2, y1, y2, y3, y4, y5, y6, y7⟩ | ⟨w, S2, T2, c', y1, y2, y3, y4, y5, y6, y7, y8, y9⟩
      · have hl : (ls ++ ops.map stI).length < a1 := by
          rw [List.length_append, List.length_map]
          omega
        obtain ⟨S6, T6, z1, z2, z3, z4, z5⟩ := LB.wr (N := N) hb ht y3 hl (11, 0)
        have z1' : fX3_write N S2 10018 = some S6 := z1
        have z2' : fX12_put N T2 11 0 = some T6 := z2
        rw [b2_s y1, bd_s y2, if_neg n10, bd_s z1', bd_s z2', lt_s9, nI_1]
        have r := ih (i + 1) a1 _ _ S6 T6 z5 (by omega) (by omega)
        have e1 : ls ++ ops.map stI ++ [stI (11, 0)] = ls ++ (ops ++ [(11, 0)]).map stI := by
          rw [List.map_append, List.append_assoc]
          rfl
        have e2 : lc ++ ops ++ [(11, 0)] = lc ++ (ops ++ [(11, 0)]) := List.append_assoc ..
        rw [e1, e2] at r
        refine r.app (by rw [List.length_append]; simp; omega) (fun o ho o0 h0 => ?_) ((s2.tr y6).tr (z3.mono (fun k j => wrC_lr))) ((q5.tr y7).tr (z4.mono (fun k j => puM_lr)))
        rw [← List.append_assoc]
        exact ho _ (boo_bin h0 y5 (by omega) (by omega) (Or.inr rfl))
      · have g14 : gi T2 52 14 = nI t := (y9.gi (by unfold lrM; omega)).trans b5.2.2.2.1
        obtain ⟨T6, x1, x2, x3', x4, x5⟩ := m_putB (N := N) (x := 11) (y := 0) ht g14 y6 (by omega) y5
        rw [b2_s y1, bd_s y2, if_pos rfl, bd_s x1]
        obtain ⟨f, rfl⟩ : ∃ q, f = q + 1 := ⟨f - 1, by omega⟩
        unfold fX12_goOnOr_l0
        rw [if_neg (show ¬ gi T6 52 4 = -1 by rw [x3']; exact nI_m1 (by omega))]
        exact Or.inr ⟨w, S2, T6, _, rfl, rfl, y3, y4, x3', x2, by omega, s2.tr y8, (q5.tr y9).tr (x5.mono (fun k j => puM_lr))⟩
    · rw [b2_s s1, if_pos rfl, if_neg c1]
      refine Or.inl ⟨_, [], S4, T4, rfl, rfl, ?_, by simp; exact hA, fun o0 h0 => ?_, s2, t2.mono (fun k j => atM_lr)⟩
      · rw [List.map_nil, List.append_nil, List.append_nil]
        exact b4
      · rw [List.append_nil]
        exact h0
/-- a whole condition, from what its first truth came to -/
theorem x_condG {n N t dp kU uU a : Nat} {tp : Nat → Nat} {recC : SS → Int32 → Option (SS × Int32)} {recM : SS → Option SS} {P0 : List (Nat × Nat) → Prop} {x : Option (SS × Int32)} {y : Option SS} {ls : List Int32} {lc : List (Nat × Nat)} {S T : SS} (hN : 250 ≤ N) (hb : tpB n tp) (ht : t ≤ 4) (hu2 : uU ≤ 100)
    (hat : ∀ a ls lc S T, LB n tp t a ls lc dp S T → Res n tp t a ls lc dp (Boo kU) uU S T (recC S (nI dp)) (recM T))
    (h0 : Res n tp t a ls lc dp P0 (uU + 1) S T x y) : Res n tp t a ls lc dp (fun ops => ∃ o1 o2, ops = o1 ++ o2 ∧ P0 o1 ∧ ∀ o0, Boo (kU + 2) o0 → Boo (kU + 2) (o0 ++ o2)) (uU + 2) S T (b2 x fun S4 r3 => if r3 = 0 then some (S4, 0) else fX3_readCondition_l13 N recC N (nI dp) 0 S4) (bd y fun T2 => fX12_goOnOr N recM T2) := by
  have hn := hb.1
  rcases h0 with ⟨a1, ops, S2, T2, y1, y2, y3, y4, y5, y6, y7⟩ | ⟨w, S2, T2, c', y1, y2, y3, y4, y5, y6, y7, y8, y9⟩
  · rw [b2_s y1, bd_s y2, if_neg n10]
    have r := x_or hN hb ht hu2 hat N 0 a1 _ _ S2 T2 y3 y3.2.2.2.2.2.2.2 (by omega)
    exact r.app y4 (fun o ho => ⟨ops, o, rfl, y5, ho⟩) y6 y7
  · rw [b2_s y1, bd_s y2, if_pos rfl, (and_bad hN (by omega) y5).2]
    exact Or.inr ⟨w, S2, T2, c', rfl, rfl, y3, y4, y5, y6, by omega, y8, y9⟩
theorem x_cond {n N t dp kU uU a : Nat} {tp : Nat → Nat} {recC : SS → Int32 → Option (SS × Int32)} {recM : SS → Option SS} {ls : List Int32} {lc : List (Nat × Nat)} {S T : SS} (hN : 250 ≤ N) (hb : tpB n tp) (ht : t ≤ 4) (hu2 : uU ≤ 100)
    (hat : ∀ a ls lc S T, LB n tp t a ls lc dp S T → Res n tp t a ls lc dp (Boo kU) uU S T (recC S (nI dp)) (recM T))
    (h : LB n tp t a ls lc dp S T) : Res n tp t a ls lc dp (Boo (kU + 2)) (uU + 2) S T (fX3_readCondition N recC S (nI dp) 0) (fX12_condition N recM T) := by
  have r := x_condG hN hb ht hu2 hat (x_truth hN hb ht hu2 hat h)
  have eM : fX12_condition N recM T = (bd (bd (recM T) fun T2 => fX12_goOnAnd N recM T2) fun T2 => fX12_goOnOr N recM T2) := by
    unfold fX12_condition
    rw [bd_as]
    cases recM T with
    | none => rfl
    | some T2 =>
      show (bd (fX12_goOnAnd N recM T2) fun T4 => bd (fX12_goOnOr N recM T4) fun T6 => some T6) = bd (fX12_goOnAnd N recM T2) fun T2 => fX12_goOnOr N recM T2
      cases fX12_goOnAnd N recM T2 with
      | none => rfl
      | some T4 =>
        show (bd (fX12_goOnOr N recM T4) fun T6 => some T6) = fX12_goOnOr N recM T4
        cases fX12_goOnOr N recM T4 <;> rfl
  rw [eM]
  refine r.pu (fun o ho => ?_) (Nat.le_refl _)
  obtain ⟨o1, o2, rfl, q1, q2⟩ := ho
  exact q2 o1 (q1.mono (by omega))
theorem x_unit {n N t : Nat} {tp : Nat → Nat} (hN : 250 ≤ N) (hb : tpB n tp) (ht : t ≤ 4) : ∀ (d dp a : Nat) (ls : List Int32) (lc : List (Nat × Nat)) (S T : SS), dp ≤ 6 → 6 - dp < d → LB n tp t a ls lc dp S T → Res n tp t a ls lc dp (Boo (16 - 2 * dp)) (16 - 2 * dp) S T (fX3_readUnit N d S (nI dp)) (fX12_unit N d T) := by
  have hn := hb.1
  intro d
  induction d with
  | zero =>
    intro dp a ls lc S T hd hf
    omega
  | succ d ih =>
    intro dp a ls lc S T hd hf h
    obtain ⟨S3, T3, s1, t1, s2, t2, b3, hA⟩ := h.look hN hb
    refine Res.pre ?_ hA (s2.mono (fun k j => atC_lr)) (t2.mono (fun k j => atM_lr))
    show Res n tp t _ ls lc dp _ _ S3 T3 (fX3_readUnit_b N (fX3_readUnit N d) S (nI dp)) (fX12_unit_b N (fX12_unit N d) T)
    unfold fX3_readUnit_b fX12_unit_b
    rw [b2_s s1, b2_s t1]
    generalize sk n tp a = A at *
    have hl3 := lc_le hb b3
    obtain ⟨⟨hC, hM, hS, hT, h4, hAn⟩, g2, g3, g4, g5, g6, g7, g8⟩ := id b3
    have op : A < n → dp < 6 → LB n tp t (A + 1) ls lc (dp + 1) (pj S3 1 2 (gi S3 1 2 + 1)) (pj (pj T3 52 5 (nI (dp + 1))) 52 3 (gi T3 52 3 + 1)) := fun hlt _ => by
      have := (b3.dp (d2 := dp + 1)).step hlt
      rw [gi_ne (j' := 3) (j := 5) (by decide)] at this
      exact this
    have f4 : FP lrC S3 (pj S3 1 2 (gi S3 1 2 + 1)) := FP.pj (Or.inl ⟨rfl, rfl⟩)
    have q4 : FP (lrM t) T3 (pj (pj T3 52 5 (nI (dp + 1))) 52 3 (gi T3 52 3 + 1)) := (FP.pj (by unfold lrM; omega)).tr (FP.pj (by unfold lrM; omega))
    have deep6 : ∀ g : SS → Option SS, ¬ dp < 6 → Res n tp t A ls lc dp (Boo (16 - 2 * dp)) (16 - 2 * dp) S3 T3 (some (S3, 0)) (bd (fX12_opens N T3) fun T19 => if gi T19 52 4 = -1 then g T19 else some T19) := fun g hd6 => by
      have hd6' : dp = 6 := by omega
      subst hd6'
      obtain ⟨T5, z1, z2, z3⟩ := m_opens6 (N := N) g5 h4 hT
      rw [bd_s z1, if_neg (show ¬ gi T5 52 4 = -1 by rw [z2]; exact nI_m1 (by omega))]
      exact Or.inr ⟨A, S3, T5, lc.length, rfl, rfl, hAn, hS, z2, by rw [z3.1 56 t (by omega)]; exact g3.1, by omega, FP.rf, z3.mono (fun k j q => by unfold lrM; omega)⟩
    by_cases c1 : ch n tp A = 33
    · have hlt : A < n := (ch_in (v := 33) (by omega) c1).1
      rw [if_pos c1, if_pos c1]
      unfold fX3_readUnit_j42
      by_cases hd6 : dp < 6
      · have b4 := op hlt hd6
        rw [if_pos (show nI dp < 6 from nI_lt (b := 6) hd6 (by omega)), lt_s9, c1, if_neg (by decide), nI_1, bd_s (m_opens0 g5 hd6), if_pos b4.1.2.2.2.2.1]
        rcases ih (dp + 1) _ _ _ _ _ (by omega) (by omega) b4 with ⟨a1, ops, S2, T2, y1, y2, y3, y4, y5, y6, y7⟩ | ⟨w, S2, T2, c', y1, y2, y3, y4, y5, y6, y7, y8, y9⟩
        · have hl : (ls ++ ops.map stI).length < a1 := by
            rw [List.length_append, List.length_map]
            omega
          obtain ⟨S6, T6, z1, z2, z3, z4, z5⟩ := LB.wr (N := N) hb ht y3 hl (9, 0)
          have z1' : fX3_write N S2 10019 = some S6 := z1
          have z2' : fX12_put N T2 9 0 = some T6 := z2
          rw [b2_s y1, bd_s y2, if_neg n10, bd_s z1', bd_s z2', lt_s9, z5.2.2.2.2.1, nI_pred]
          refine Or.inl ⟨a1, ops ++ [(9, 0)], S6, _, rfl, rfl, ?_, by rw [List.length_append]; simp; omega, boo_not (y5.mono (by omega)), (f4.tr y6).tr (z3.mono (fun k j => wrC_lr)), ((q4.tr y7).tr (z4.mono (fun k j => puM_lr))).tr (FP.pj (by unfold lrM; omega))⟩
          rw [List.map_append, ← List.append_assoc, ← List.append_assoc]
          exact z5.dp
        · have g14 : gi T2 52 14 = nI t := (y9.gi (by unfold lrM; omega)).trans b4.2.2.2.1
          obtain ⟨T6, x1, x2, x3', x4, x5⟩ := m_putB (N := N) (x := 9) (y := 0) ht g14 y6 (by omega) y5
          rw [b2_s y1, bd_s y2, if_pos rfl, bd_s x1, lt_s9]
          exact Or.inr ⟨w, S2, _, _, rfl, rfl, y3, y4, by rw [gi_ne (by decide)]; exact x3', by rw [pj_ne (by decide)]; exact x2, by omega, f4.tr y8, ((q4.tr y9).tr (x5.mono (fun k j => puM_lr))).tr (FP.pj (by unfold lrM; omega))⟩
      · rw [if_neg (show ¬ nI dp < 6 from nI_nlt (b := 6) (by omega) (by omega))]
        exact deep6 _ hd6
    · rw [if_neg c1, if_neg c1]
      by_cases c2 : ch n tp A = 40
      · have hlt : A < n := (ch_in (v := 40) (by omega) c2).1
        rw [if_pos c2, if_pos c2]
        unfold fX3_readUnit_j42
        by_cases hd6 : dp < 6
        · have b4 := op hlt hd6
          rw [if_pos (show nI dp < 6 from nI_lt (b := 6) hd6 (by omega)), lt_s9, if_pos c2, nI_1, bd_s (m_opens0 g5 hd6), if_pos b4.1.2.2.2.2.1]
          have r := x_cond (kU := 14 - 2 * dp) (uU := 14 - 2 * dp) hN hb ht (by omega) (fun a ls lc S T h => by
            have := ih (dp + 1) a ls lc S T (by omega) (by omega) h
            rw [show 16 - 2 * (dp + 1) = 14 - 2 * dp by omega] at this
            exact this) b4
          rw [show 14 - 2 * dp + 2 = 16 - 2 * dp by omega] at r
          rcases r with ⟨a1, ops, S2, T2, y1, y2, y3, y4, y5, y6, y7⟩ | ⟨w, S2, T2, c, y1, y2, y3, y4, y5, y6, y7, y8, y9⟩
          · have hl5 := lc_le hb y3
            rw [b2_s y1, if_neg n10, bd_s y2]
            rcases closB (w := 41) hN hb y3 41 rfl (by omega) with ⟨S5, T5, z1, z2, z3, z4, z5, z6⟩ | ⟨S5, T5, z1, z2, z3, z4, z5, z6, z7, z8⟩
            · rw [b2_s z1, if_neg n10, bd_s z2]
              exact Or.inl ⟨_, ops, S5, T5, rfl, rfl, z3, by omega, y5, (f4.tr y6).tr z5, (q4.tr y7).tr z6⟩
            · rw [b2_s z1, if_pos rfl, bd_s z2]
              exact Or.inr ⟨_, S5, T5, _, rfl, rfl, z4, z3, z5, z6, by omega, (f4.tr y6).tr z7, (q4.tr y7).tr z8⟩
          · rw [b2_s y1, if_pos rfl, bd_s y2]
            unfold fX12_closes fX12_closes_j20
            rw [y5, if_neg (nI_m1 (by omega)), lt_s9, lt_s9, bd_s rfl]
            refine Or.inr ⟨w, S2, _, c, rfl, rfl, y3, y4, ?_, ?_, y7, f4.tr y8, ((q4.tr y9).tr (FP.pj (by unfold lrM; omega))).tr (FP.pj (by unfold lrM; omega))⟩
            · rw [gi_ne (by decide), gi_ne (by decide)]
              exact y5
            · rw [pj_ne (by decide), pj_ne (by decide)]
              exact y6
        · rw [if_neg (show ¬ nI dp < 6 from nI_nlt (b := 6) (by omega) (by omega))]
          exact deep6 _ hd6
      · rw [if_neg c2, if_neg c2]
        rcases x_sum hN hb ht 9 dp _ _ _ _ _ hd (by omega) b3 with ⟨a1, ops, S2, T2, y1, y2, y3, y4, y5, y6, y7⟩ | ⟨w, S2, T2, c', y1, y2, y3, y4, y5, y6, y7, y8, y9⟩
        · rw [b2_s y1, bd_s y2, if_neg n10, if_pos y3.1.2.2.2.2.1]
          have r := (x_cmp hN hb ht hd y3).app (P := Boo (16 - 2 * dp)) y4 (fun o ho => ho ops y5) y6 y7
          rcases r with ⟨a2, ops2, S5, T5, z1, z2, z3, z4, z5, z6, z7⟩ | ⟨w, S5, T5, c', z1, z2, z3, z4, z5, z6, z7, z8, z9⟩
          · rw [b2_s z1, if_neg n10, bd_s z2]
            exact Or.inl ⟨a2, ops2, S5, T5, rfl, rfl, z3, z4, z5, z6, z7⟩
          · rw [b2_s z1, if_pos rfl, bd_s z2]
            exact Or.inr ⟨w, S5, T5, c', rfl, rfl, z3, z4, z5, z6, z7, z8, z9⟩
        · rw [b2_s y1, bd_s y2, if_pos rfl, if_neg (show ¬ gi T2 52 4 = -1 by rw [y5]; exact nI_m1 (by omega))]
          exact Or.inr ⟨w, S2, T2, c', rfl, rfl, y3, y4, y5, y6, by omega, y8, y9⟩
