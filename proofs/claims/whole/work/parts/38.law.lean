/-! which goes with which: one function of five numbers -/
def lqS (S : SS) (c p l e n d : Int32) : SS := pa (pa (pa (pa (pa (pa S 16 0 c) 16 1 p) 16 2 l) 16 3 e) 16 4 n) 16 5 d
def lqT (T : SS) (c p l e n d : Int32) : SS := pa (pa (pa (pa (pa (pa T 61 0 c) 61 1 p) 61 2 l) 61 3 e) 61 4 n) 61 5 d
theorem lqS_fr (S : SS) (c p l e n d : Int32) : Fr [16] S (lqS S c p l e n d) :=
  (((((Fr.pa (by simp)).tr (Fr.pa (by simp))).tr (Fr.pa (by simp))).tr (Fr.pa (by simp))).tr (Fr.pa (by simp))).tr (Fr.pa (by simp))
theorem lqT_fr (S : SS) (c p l e n d : Int32) : Fr [61] S (lqT S c p l e n d) :=
  (((((Fr.pa (by simp)).tr (Fr.pa (by simp))).tr (Fr.pa (by simp))).tr (Fr.pa (by simp))).tr (Fr.pa (by simp))).tr (Fr.pa (by simp))
theorem lqST (S T : SS) (c p l e n d : Int32) : ∀ j, j < 6 → (lqS S c p l e n d).1 16 j = (lqT T c p l e n d).1 61 j := by
  intro j hj
  rcases (by omega : j = 0 ∨ j = 1 ∨ j = 2 ∨ j = 3 ∨ j = 4 ∨ j = 5) with rfl | rfl | rfl | rfl | rfl | rfl <;> rfl
def gwC (k j : Nat) : Prop := lawC k j ∨ (k = 3 ∧ j = 1)
def gwM (k j : Nat) : Prop := lawM k j ∨ (k = 65 ∧ j = 0)
def GW (N : Nat) (S T : SS) (G : Int32 → Int32 → Int32 → Int32 → Int32 → Bool) : Prop :=
  ∀ S1 T1, Sm gwC S S1 → S1.2.2 = S.2.2 → Sm gwM T T1 → ∀ c p l n d, ∃ S2 T2, fX2_allows N S1 c p l n d = some (S2, i01 (G c p l n d)) ∧ fX12_goesBy N T1 c p l n d = some (T2, i01 (G c p l n d)) ∧ Fr [16, 17] S1 S2 ∧ Fr [61, 62] T1 T2
theorem GW.c {N : Nat} {S T S' T' : SS} {G : Int32 → Int32 → Int32 → Int32 → Int32 → Bool} (h : GW N S T G) (hS : Sm gwC S S') (hl : S'.2.2 = S.2.2) (hT : Sm gwM T T') : GW N S' T' G := fun S1 T1 h1 h2 h3 => h S1 T1 (hS.tr h1) (h2.trans hl) (hT.tr h3)
def wv (x : Option (SS × Int32)) : Int32 := match x with
  | some (_, v) => v
  | none => 0
theorem le_i01 (S : SS) (v : Int32) : (if v ≤ 0 then some (S, (0 : Int32)) else some (S, 1)) = some (S, i01 (decide (¬ v ≤ 0))) := by
  by_cases h : v ≤ 0 <;> simp [h, i01]
theorem gw_of {E N : Nat} {S T : SS} (hp : 0 < E) (hm : rMill E S T) (hl : rLaw N S T) : ∃ G, GW N S T G := by
  obtain ⟨n, h1, h2, h3, h4, h5, h6⟩ := hl
  obtain ⟨v, _, q1, q2⟩ := (hm.2.2.2 hp).1
  rcases h5 with h5 | ⟨h, hh, h5⟩
  · refine ⟨fun c p _ _ _ => decide (¬ (nI v + 1 - c - 2 * p) ≤ 0), ?_⟩
    intro S1 T1 g1 g2 g3 c p l n' d
    have e1 : gi S1 14 5 = -1 := (g1 14 5 (by simp [gwC, lawC])).trans h5
    have e2 : gi T1 52 25 = -1 := (g3 52 25 (by simp [gwM, lawM])).trans (h4.symm.trans h5)
    have e3 : gi S1 3 1 = nI v := (g1 3 1 (by simp [gwC])).trans q1
    have e4 : ga T1 65 0 = nI v := (g3 65 0 (by simp [gwM])).trans q2
    refine ⟨S1, T1, ?_, ?_, Fr.rf, Fr.rf⟩
    · unfold fX2_allows fX2_allows_j18
      rw [e1, if_pos (by decide), e3]
      exact le_i01 S1 _
    · unfold fX12_goesBy
      rw [e2, if_pos rfl, e4]
      exact le_i01 T1 _
  · refine ⟨fun c p l n' d => decide (¬ wv (fX12_worthOf N (lqT T c p l (nI v) n' d) (nI h)) ≤ 0), ?_⟩
    intro S1 T1 g1 g2 g3 c p l n' d
    have e1 : gi S1 14 5 = nI h := (g1 14 5 (by simp [gwC, lawC])).trans h5
    have e2 : gi T1 52 25 = nI h := (g3 52 25 (by simp [gwM, lawM])).trans (h4.symm.trans h5)
    have e3 : gi S1 3 1 = nI v := (g1 3 1 (by simp [gwC])).trans q1
    have e4 : ga T1 65 0 = nI v := (g3 65 0 (by simp [gwM])).trans q2
    have e5 : gi S1 14 4 = nI n := (g1 14 4 (by simp [gwC, lawC])).trans h2
    have hE := h6 h hh
    have hh4 : h < 4 := by omega
    have rS : ∀ S0 : SS, Sm gwC S S0 → S0.2.2 = S.2.2 → (lqS S0 c p l (nI v) n' d).1 (48 + h) = S.1 (48 + h) ∧ (lqS S0 c p l (nI v) n' d).2.2 (48 + h) = S.2.2 (48 + h) := fun S0 z z2 => by
      have a1 := (lqS_fr S0 c p l (nI v) n' d).1 (48 + h) (by simp; omega)
      have a2 := (lqS_fr S0 c p l (nI v) n' d).2
      refine ⟨a1.trans (z.row fun j => Or.inl (Or.inr ?_)), by rw [a2, z2]⟩
      omega
    have rT : ∀ T0 : SS, Sm gwM T T0 → (∀ j, j < 520 → (lqT T0 c p l (nI v) n' d).1 54 (520 * h + j) = T.1 54 (520 * h + j) ∧ (lqT T0 c p l (nI v) n' d).1 55 (520 * h + j) = T.1 55 (520 * h + j)) ∧ (lqT T0 c p l (nI v) n' d).1 57 h = T.1 57 h ∧ (∀ j, j < 140 → (lqT T0 c p l (nI v) n' d).1 58 (140 * h + j) = T.1 58 (140 * h + j) ∧ (lqT T0 c p l (nI v) n' d).1 59 (140 * h + j) = T.1 59 (140 * h + j) ∧ (lqT T0 c p l (nI v) n' d).1 60 (140 * h + j) = T.1 60 (140 * h + j)) := fun T0 z => by
      refine ⟨fun j hj => ⟨z 54 _ ?_, z 55 _ ?_⟩, z 57 h ?_, fun j hj => ⟨z 58 _ ?_, z 59 _ ?_, z 60 _ ?_⟩⟩ <;> (simp [gwM, lawM]; try omega)
    have key : ∀ S0 T0 : SS, Sm gwC S S0 → S0.2.2 = S.2.2 → Sm gwM T T0 → _ := fun S0 T0 z1 z2 z3 => hE (lqS S0 c p l (nI v) n' d) (lqT T0 c p l (nI v) n' d) (rS S0 z1 z2).1 (rS S0 z1 z2).2 (rT T0 z3).1 (rT T0 z3).2.1 (rT T0 z3).2.2 (lqST S0 T0 c p l (nI v) n' d)
    obtain ⟨A2, B2, w, k1, k2, k3, k4⟩ := key S1 T1 g1 g2 g3
    obtain ⟨A3, B3, w3, k5, k6, _, _⟩ := key S1 T g1 g2 Sm.rf
    have hw : w3 = w := by
      rw [k1] at k5
      exact (congrArg (fun x => x.2) (Option.some.inj k5)).symm
    have hG : wv (fX12_worthOf N (lqT T c p l (nI v) n' d) (nI h)) = w := by
      rw [k6]
      exact hw
    refine ⟨A2, B2, ?_, ?_, ((lqS_fr S1 c p l (nI v) n' d).mono (by simp)).tr (k3.mono (by simp)), ((lqT_fr T1 c p l (nI v) n' d).mono (by simp)).tr (k4.mono (by simp))⟩
    · unfold fX2_allows
      rw [e1, if_neg (nI_pos (by omega)), e5, if_pos (nI_lt hh (by omega))]
      simp only [lt_s9]
      have z1 : gi (pa (pa (pa S1 16 0 c) 16 1 p) 16 2 l) 3 1 = nI v := e3
      rw [z1]
      have z2 : gi (lqS S1 c p l (nI v) n' d) 14 5 = nI h := e1
      show ck (inb (gi (lqS S1 c p l (nI v) n' d) 14 5) 4) (b2 (fX2_worth N (lqS S1 c p l (nI v) n' d) (48 + (gi (lqS S1 c p l (nI v) n' d) 14 5).toNatClampNeg)) fun S12 r11 => if r11 ≤ 0 then some (S12, 0) else some (S12, 1)) = _
      rw [z2, ck_in hh4 (by omega), nI_clamp (by omega), b2_s k1, le_i01]
      show some (A2, i01 (decide (¬ w ≤ 0))) = some (A2, i01 (decide (¬ wv (fX12_worthOf N (lqT T c p l (nI v) n' d) (nI h)) ≤ 0)))
      rw [hG]
    · unfold fX12_goesBy
      rw [e2, if_neg (nI_m1 (by omega))]
      simp only [lt_s9]
      have z1 : ga (pa (pa (pa T1 61 0 c) 61 1 p) 61 2 l) 65 0 = nI v := e4
      rw [z1]
      have z2 : gi (lqT T1 c p l (nI v) n' d) 52 25 = nI h := e2
      show (b2 (fX12_worthOf N (lqT T1 c p l (nI v) n' d) (gi (lqT T1 c p l (nI v) n' d) 52 25)) fun T10 r9 => if r9 ≤ 0 then some (T10, 0) else some (T10, 1)) = _
      rw [z2, b2_s k2, le_i01]
      show some (B2, i01 (decide (¬ w ≤ 0))) = some (B2, i01 (decide (¬ wv (fX12_worthOf N (lqT T c p l (nI v) n' d) (nI h)) ≤ 0)))
      rw [hG]
