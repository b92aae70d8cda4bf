/-! knots: the reference, and the call -/
def eN (T : SS) : Option (Nat × Nat) → Prop
  | none => gi T 52 31 = -1
  | some c => gi T 52 31 = nI c.2 ∧ gi T 52 32 = nI c.1
theorem eN_c {T T' : SS} (h : T'.1 52 = T.1 52) : ∀ {s : Option (Nat × Nat)}, eN T s → eN T' s
  | none, q => by
    unfold eN gi at *
    rw [h]
    exact q
  | some c, q => by
    unfold eN gi at *
    rw [h]
    exact q
/-- what could be at first still holds of the later ends -/
def knI (e : Nat) (m0 m : Nat → Int32) : Prop := m 28 = m0 28 ∧ ∀ x, e ≤ x → x < 7 → m (14 + x) = m0 (14 + x)
theorem op_later {m0 m : Nat → Int32} {e o : Nat} (h : knI e m0 m) (he : e < 7) (ho : opF m0 e o = true) : opF m e o = (decide (m (21 + o) = -1) && decide (hdF m e ≠ o)) := by
  obtain ⟨o1, o2, o3, o4, o5, o6⟩ := op_ex ho
  unfold opF
  have s1 : sdF m e = false := by
    unfold sdF at *
    rw [h.1]
    exact o2
  have s2 : sdF m o = false := by
    unfold sdF at *
    rw [h.1]
    exact o3
  rw [s1, s2, h.2 e (Nat.le_refl _) he, o4]
  simp [o1]
theorem m_kn {E N : Nat} {g : Nat → Nat → Bool} {m0 : Nat → Int32} (hN : 9 ≤ N) (hE : E ≤ 7) (hg0 : ∀ a b, a < E → b < E → g a b = true → opF m0 a b = true) : ∀ (j d : Nat) (T : SS) (M R : Nat) (s : Option (Nat × Nat)), j ≤ E → j < d → gi T 52 22 = nI E → (∀ x, x < E → T.1 70 x = nI (bF (g x) E)) → wfL E (T.1 67) → knI (E - j) m0 (T.1 67) → M + j ≤ E → (R + 1) * 10 ^ j ≤ 10000000 → eN T s → (∀ c, s = some c → c.1 ≤ 7) → bel s (R * 10 ^ j) → ∃ T2, fX12_tryKnots N d T (nI (E - j)) (nI R) (nI M) = some T2 ∧ FT [67] T T2 ∧ T2.1 67 = T.1 67 ∧ eN T2 ((lvs E g j (T.1 67) M R).foldl bet s) := by
  intro j
  induction j with
  | zero =>
    intro d T M R s hj hd h22 h70 hw hI hMj hR he hs hb
    obtain ⟨d, rfl⟩ : ∃ q, d = q + 1 := ⟨d - 1, by omega⟩
    rw [Nat.pow_zero, Nat.mul_one] at hR hb
    show ∃ T2, fX12_tryKnots_b N (fX12_tryKnots N d) T (nI (E - 0)) (nI R) (nI M) = some T2 ∧ _
    unfold fX12_tryKnots_b fX12_isBetter
    rw [Nat.sub_zero, h22, if_pos rfl]
    have fin : FT [67] T (pj (pj T 52 31 (nI R)) 52 32 (nI M)) ∧ (pj (pj T 52 31 (nI R)) 52 32 (nI M)).1 67 = T.1 67 ∧ eN (pj (pj T 52 31 (nI R)) 52 32 (nI M)) (some (M, R)) :=
      ⟨(FT.pj (Or.inl rfl)).tr (FT.pj (Or.inr (Or.inl rfl))), rfl, by rw [gi_pj, gi_pj]; rfl, by rw [gi_pj]; rfl⟩
    show ∃ T2, _ ∧ _ ∧ _ ∧ eN T2 (bet s (M, R))
    cases s with
    | none =>
      rw [if_pos (show gi T 52 31 = -1 from he), bd_s rfl, if_neg n10]
      exact ⟨_, rfl, fin.1, fin.2.1, fin.2.2⟩
    | some c =>
      have q := hs c rfl
      have q2 := hb c rfl
      rw [he.1, he.2, if_neg (nI_m1 (by omega))]
      by_cases c1 : c.1 < M
      · have e : bet (some c) (M, R) = some (M, R) := if_pos (Or.inl c1)
        rw [if_pos (nI_lt c1 (by omega)), e, bd_s rfl, if_neg n10]
        exact ⟨_, rfl, fin.1, fin.2.1, fin.2.2⟩
      · have e : bet (some c) (M, R) = some c := if_neg (by show ¬ (c.1 < M ∨ M = c.1 ∧ R < c.2); omega)
        rw [if_neg (nI_nlt (by omega) (by omega)), e]
        by_cases c2 : M = c.1
        · rw [if_pos (by rw [c2]), if_pos (nI_le (by omega) (by omega)), bd_s rfl, if_pos rfl]
          exact ⟨_, rfl, FT.rf, rfl, he⟩
        · rw [if_neg (fun z => c2 ((nI_eq (by omega) (by omega)).mp z)), bd_s rfl, if_pos rfl]
          exact ⟨_, rfl, FT.rf, rfl, he⟩
  | succ j ih =>
    intro d T M R s hj hd h22 h70 hw hI hMj hR he hs hb
    obtain ⟨d, rfl⟩ : ∃ q, d = q + 1 := ⟨d - 1, by omega⟩
    have heE : E - (j + 1) < E := by omega
    rw [p10] at hR
    show ∃ T2, fX12_tryKnots_b N (fX12_tryKnots N d) T (nI (E - (j + 1))) (nI R) (nI M) = some T2 ∧ _
    unfold fX12_tryKnots_b
    rw [h22, if_neg (fun z => by
      have := (nI_eq (by omega) (by omega)).mp z
      omega)]
    have loop : ∀ (i o n : Nat) (T' : SS) (s' : Option (Nat × Nat)), FT [67] T T' → T'.1 67 = T.1 67 → eN T' s' → (∀ c, s' = some c → c.1 ≤ 7) → bel s' ((10 * R + o) * 10 ^ j) → o + i = E → i < n → ∃ T2, fX12_tryKnots_l31 N (fX12_tryKnots N d) n (nI (E - (j + 1))) (nI R) (nI M) (nI o) T' = some T2 ∧ FT [67] T T2 ∧ T2.1 67 = T.1 67 ∧ eN T2 ((lvo (E - (j + 1)) g (lvs E g j) (T.1 67) M R i o).foldl bet s') := by
      intro i
      induction i with
      | zero =>
        intro o n T' s' fT h67 he' hs' hb' hi hn
        obtain ⟨n, rfl⟩ : ∃ q, n = q + 1 := ⟨n - 1, by omega⟩
        have h22' : gi T' 52 22 = nI E := (fT.sl (by decide) (by unfold scj; omega)).trans h22
        unfold fX12_tryKnots_l31
        rw [h22', if_pos (nI_le (by omega) (by omega)), nI_1, show (9 : Int32) = nI 9 from rfl, k_10b, show E - (j + 1) + 1 = E - j by omega]
        have hbd : (10 * R + 9 + 1) * 10 ^ j ≤ 10000000 := Nat.le_trans (Nat.mul_le_mul_right _ (by omega)) hR
        obtain ⟨T2, z1, z2, z3, z4⟩ := ih d T' M (10 * R + 9) s' (by omega) (by omega) h22' (fun x hx => by rw [fT.row (k := 70) (by decide) (by decide)]; exact h70 x hx) (by rw [h67]; exact hw) (by rw [h67]; exact ⟨hI.1, fun x h1 h2 => hI.2 x (by omega) h2⟩) (by omega) hbd he' hs' (bel_mono hb' (Nat.mul_le_mul_right _ (by omega)))
        rw [bd_s z1]
        rw [h67] at z3 z4
        exact ⟨T2, rfl, fT.tr z2, z3, z4⟩
      | succ i ihi =>
        intro o n T' s' fT h67 he' hs' hb' hi hn
        obtain ⟨n, rfl⟩ : ∃ q, n = q + 1 := ⟨n - 1, by omega⟩
        have ho : o < E := by omega
        have h22' : gi T' 52 22 = nI E := (fT.sl (by decide) (by unfold scj; omega)).trans h22
        have h70' : ∀ x, x < E → T'.1 70 x = nI (bF (g x) E) := fun x hx => by rw [fT.row (k := 70) (by decide) (by decide)]; exact h70 x hx
        have hbit := (k_sr _ (bF_128 (g (E - (j + 1))) hE) o (by omega)).1
        rw [bF_tb] at hbit
        simp only [ho, decide_true, Bool.true_and] at hbit
        have hb2 : bel s' ((10 * R + (o + 1)) * 10 ^ j) := bel_mono hb' (Nat.mul_le_mul_right _ (by omega))
        have hw' : wfL E (T'.1 67) := by rw [h67]; exact hw
        unfold fX12_tryKnots_l31 lvo fX12_has
        rw [h22', if_neg (nI_ge (by omega) (by omega)), ck_in (by omega) (by omega), ga_nI (by omega), h70' _ heE]
        simp only [lt_s9, nI_1]
        cases hg : g (E - (j + 1)) o
        · rw [if_neg (fun z => by rw [hbit.mp z] at hg; cases hg), Bool.false_and, bd_s rfl, if_pos rfl]
          exact ihi (o + 1) n T' s' fT h67 he' hs' hb2 (by omega) (by omega)
        · have hl := op_later (m := T.1 67) hI (by omega) (hg0 _ _ heE ho hg)
          rw [if_pos (hbit.mpr hg), Bool.true_and, bd_s rfl, if_neg n10, a21, a14, ck_in (by omega) (by omega), ga_nI (by omega), bd_s (m_first hN hE hw' heE), h67]
          by_cases hq1 : T.1 67 (21 + o) = -1
          · rw [if_pos hq1]
            have hh := hd_lt hE hw heE
            by_cases hq2 : hdF (T.1 67) (E - (j + 1)) = o
            · rw [if_pos (by rw [hq2]), hl]
              simp only [hq2, ne_eq, not_true_eq_false, decide_false, Bool.and_false]
              exact ihi (o + 1) n T' s' fT h67 he' hs' hb2 (by omega) (by omega)
            · have hq : opF (T.1 67) (E - (j + 1)) o = true := by
                rw [hl]
                simp [hq1, hq2]
              rw [if_neg (fun z => hq2 ((nI_eq (by omega) (by omega)).mp z)), hq, if_pos rfl, ck_in (by omega) (by omega), ck_in (by omega) (by omega), k_10b, show E - (j + 1) + 1 = E - j by omega]
              have r1 : (pa (pa T' 67 (nI (14 + (E - (j + 1)))) (nI o)) 67 (nI (21 + o)) (nI (E - (j + 1)))).1 67 = jnF (T.1 67) (E - (j + 1)) o := by
                rw [row_pa, if_pos rfl, nI_clamp (by omega), row_pa, if_pos rfl, nI_clamp (by omega), h67]
                rfl
              have f1 : FT [67] T' (pa (pa T' 67 (nI (14 + (E - (j + 1)))) (nI o)) 67 (nI (21 + o)) (nI (E - (j + 1)))) := FT.of ((Fr.pa (by decide)).tr (Fr.pa (by decide)))
              have e52 : (pa (pa T' 67 (nI (14 + (E - (j + 1)))) (nI o)) 67 (nI (21 + o)) (nI (E - (j + 1)))).1 52 = T'.1 52 := rfl
              have e70 : (pa (pa T' 67 (nI (14 + (E - (j + 1)))) (nI o)) 67 (nI (21 + o)) (nI (E - (j + 1)))).1 70 = T'.1 70 := rfl
              revert r1 f1 e52 e70
              generalize (pa (pa T' 67 (nI (14 + (E - (j + 1)))) (nI o)) 67 (nI (21 + o)) (nI (E - (j + 1)))) = T1
              intro r1 f1 e52 e70
              have hbd : (10 * R + o + 1) * 10 ^ j ≤ 10000000 := Nat.le_trans (Nat.mul_le_mul_right _ (by omega)) hR
              obtain ⟨T2, z1, z2, z3, z4⟩ := ih d T1 (M + 1) (10 * R + o) s' (by omega) (by omega) (by unfold gi; rw [e52]; exact h22') (fun x hx => by rw [e70]; exact h70' x hx) (by rw [r1]; exact wf_jn hE hw heE ho hq) (by
                rw [r1]
                refine ⟨?_, fun x h1 h2 => ?_⟩
                · rw [jn_at (by omega) (by omega)]
                  exact hI.1
                · rw [jn_at (by omega) (by omega)]
                  exact hI.2 x (by omega) h2) (by omega) hbd (eN_c e52 he') hs' hb'
              obtain ⟨q1, q2, q3, q4, q5, q6⟩ := op_ex hq
              rw [bd_s z1, List.foldl_append]
              rw [r1] at z3 z4
              have r3 : (pa (pa T2 67 (nI (14 + (E - (j + 1)))) (-1)) 67 (nI (21 + o)) (-1)).1 67 = T.1 67 := by
                rw [row_pa, if_pos rfl, nI_clamp (by omega), row_pa, if_pos rfl, nI_clamp (by omega), z3, jn_back q4 q5 (by omega)]
              have f3 : FT [67] T2 (pa (pa T2 67 (nI (14 + (E - (j + 1)))) (-1)) 67 (nI (21 + o)) (-1)) := FT.of ((Fr.pa (by decide)).tr (Fr.pa (by decide)))
              have e3 : (pa (pa T2 67 (nI (14 + (E - (j + 1)))) (-1)) 67 (nI (21 + o)) (-1)).1 52 = T2.1 52 := rfl
              rw [ck_in (by omega) (by omega), ck_in (by omega) (by omega)]
              refine ihi (o + 1) n _ _ (((fT.tr f1).tr z2).tr f3) r3 (eN_c e3 z4) (fun c hc => ?_) (bel_lvs hE hb') (by omega) (by omega)
              rcases bet_mem _ _ _ hc with q | q
              · exact hs' c q
              · have a1 := lvs_opn j _ (M + 1) (10 * R + o) c (by omega) q
                have a2 := opn_le (E := E) (g := g) j
                omega
          · rw [if_neg hq1, hl]
            simp only [hq1, decide_false, Bool.false_and]
            exact ihi (o + 1) n T' s' fT h67 he' hs' hb2 (by omega) (by omega)
    obtain ⟨T2, z1, z2, z3, z4⟩ := loop E 0 N T s FT.rf rfl he hs (by rw [Nat.add_zero, ← p10]; exact hb) (by omega) (by omega)
    exact ⟨T2, z1, z2, z3, z4⟩
theorem c_bundles {E N : Nat} {S : SS} {m : Nat → Int32} (hE : E ≤ 7) (hv : Lv E 18 S m) (hw : wfL E m) : ∀ (j i n : Nat), i + j = E → j < n → fX0_countBundles_l4 N n (nI (sumF (fun d => if (!(sdF m d) && decide (m (21 + d) = -1)) = true then 1 else 0) i)) (nI i) S = some (nI (hds E m)) := by
  intro j
  induction j with
  | zero =>
    intro i n hi hn
    obtain ⟨n, rfl⟩ : ∃ q, n = q + 1 := ⟨n - 1, by omega⟩
    unfold fX0_countBundles_l4 hds
    rw [hv.1, if_pos (nI_le (by omega) (by omega)), show i = E by omega]
  | succ j ih =>
    intro i n hi hn
    obtain ⟨n, rfl⟩ : ∃ q, n = q + 1 := ⟨n - 1, by omega⟩
    have hi' : i < E := by omega
    have h1 := ih (i + 1) n (by omega) (by omega)
    rw [sumF_s] at h1
    unfold fX0_countBundles_l4
    rw [hv.1, if_neg (nI_ge (by omega) (by omega)), bd_s (c_sold hE hv hw hi'), ck_in (by omega) (by omega), ga_nI (by omega), (hv.2.1 i hi').2.2.2]
    simp only [lt_s9, nI_1]
    cases hs : sdF m i
    · rw [ifi0]
      by_cases hq : m (21 + i) = -1
      · rw [if_pos hq]
        simp only [hs, hq] at h1
        exact h1
      · rw [if_neg hq]
        simp only [hs, hq] at h1
        exact h1
    · rw [ifi1]
      simp only [hs] at h1
      exact h1
theorem c_fk {E N F H : Nat} {G : Int32 → Int32 → Int32 → Int32 → Int32 → Bool} {pl m : Nat → Int32} {S0 : SS} (hN : 12 ≤ N) (h0 : 0 < E) (hK : Kx E N F H G pl S0) (hv : Lv E 18 S0 m) (hv30 : Lv E 30 S0 m) (hw : wfL E m) : ∀ (x n : Nat) (S : SS), Fr [16, 17, 35, 36] S0 S → (∀ y, x < y + 1 → y < E → S.1 35 y = nI (bF (couF G m pl y) E)) → (∀ y, x < y + 1 → y ≤ E → S.1 36 y = nI (opn E (couF G m pl) (E - y))) → x ≤ E → x < n → ∃ S2, fX0_findKnots_l34 N n (nI x - 1) S = some S2 ∧ Fr [16, 17, 29, 30, 31, 32, 33, 34, 35, 36] S0 S2 ∧ eK S2 ((lvs E (couF G m pl) E m 0 0).foldl bet none) := by
  have hE := hK.1
  have k1 : ∀ x, x ∈ ([16, 17, 35, 36] : List Nat) → x < 18 ∨ 18 + 4 < x := by decide
  intro x
  induction x with
  | zero =>
    intro n S fS h35 h36 hx hn
    obtain ⟨n, rfl⟩ : ∃ q, n = q + 1 := ⟨n - 1, by omega⟩
    have hvS := hv.f fS k1
    unfold fX0_findKnots_l34
    rw [if_pos (by decide), lt_s9]
    have hv2 : Lv E 18 (pj S 29 10 (-1)) m := hvS.f (X := [29]) (Fr.pj (by decide)) (by decide)
    have hB : fX0_countBundles N (pj S 29 10 (-1)) = some (nI (hds E m)) := c_bundles hE hv2 hw E 0 N (by omega) (by omega)
    rw [bd_s hB, lt_s9]
    have hle : hds E m ≤ 7 := by
      have : ∀ n, sumF (fun d => if (!(sdF m d) && decide (m (21 + d) = -1)) = true then 1 else 0) n ≤ n := fun n => by
        induction n with
        | zero => exact Nat.le_refl 0
        | succ n ih =>
          rw [sumF_s]
          have : (if (!(sdF m n) && decide (m (21 + n) = -1)) = true then 1 else 0) ≤ 1 := by split <;> omega
          omega
      exact Nat.le_trans (this E) hE
    have fr : Fr [16, 17, 29, 35, 36] S0 (pj (pj S 29 10 (-1)) 29 9 (nI (hds E m) - 1)) := ((fS.mono (by decide)).tr (Fr.pj (by decide))).tr (Fr.pj (by decide))
    have hC : knC E (hds E m) (couF G m pl) (pj (pj S 29 10 (-1)) 29 9 (nI (hds E m) - 1)) := by
      refine ⟨?_, fun y hy => ?_, fun y hy => ?_, ?_⟩
      · rw [gi_pj, gi_pj]
        exact hvS.1
      · exact h35 y (by omega) hy
      · exact h36 y (by omega) hy
      · rw [gi_pj]
        rfl
    obtain ⟨S2, z1, z2, z3, z4, z5, z6⟩ := c_kn (N := N) (by omega) hE hle E 10 _ m 0 0 none (Nat.le_refl _) (by omega) hC (hv30.f fr (by decide)) hw (by omega) (by omega) (Or.inl rfl) (by
      show gi _ 29 10 = -1
      rw [gi_pj, gi_pj]
      rfl) (fun c hc => nomatch hc) (fun c hc => nomatch hc)
    rw [Nat.sub_self] at z1
    have z1' : fX0_chooseKnot N 10 (pj (pj S 29 10 (-1)) 29 9 (nI (hds E m) - 1)) 0 0 0 = some S2 := z1
    rw [bd_s z1']
    exact ⟨S2, rfl, (fr.mono (by decide)).tr (z2.mono (by decide)), z5⟩
  | succ x ih =>
    intro n S fS h35 h36 hx hn
    obtain ⟨n, rfl⟩ : ∃ q, n = q + 1 := ⟨n - 1, by omega⟩
    have hvS := hv.f fS k1
    have hx' : x < E := by omega
    unfold fX0_findKnots_l34
    rw [nI_pred, if_neg (nI_pos (by omega))]
    obtain ⟨S1, z1, z2⟩ := c_partners (N := N) (by omega) (hK.f fS (by decide)) hvS hw hx'
    rw [b2_s z1]
    simp only [nI_1]
    have e35 : ga (pa S1 35 (nI x) (nI (bF (couF G m pl x) E))) 35 (nI x) = nI (bF (couF G m pl x) E) := by
      rw [ga_pa]
      simp
    have e36 : ga (pa S1 35 (nI x) (nI (bF (couF G m pl x) E))) 36 (nI (x + 1)) = nI (opn E (couF G m pl) (E - (x + 1))) := by
      rw [ga_pa, if_neg (by decide), ga_nI (by omega), z2.row (by decide)]
      exact h36 (x + 1) (by omega) (by omega)
    rw [lt_s9, lt_s9, lt_s9, lt_s9, lt_s9, e35, e36]
    simp (disch := omega) only [ck_in]
    have hop : opn E (couF G m pl) (E - x) = opn E (couF G m pl) (E - (x + 1)) + (if bF (couF G m pl x) E = 0 then 0 else 1) := by
      rw [show E - x = (E - (x + 1)) + 1 by omega]
      show opn E (couF G m pl) (E - (x + 1)) + (if bF (couF G m pl (E - (E - (x + 1) + 1))) E = 0 then 0 else 1) = _
      rw [show E - (E - (x + 1) + 1) = x by omega]
    have hb := bF_128 (couF G m pl x) hE
    have e1 : nI x + (-1) = nI x - 1 := (Int32.sub_eq_add_neg (nI x) 1).symm
    rw [e1]
    have key : ∀ v, v = opn E (couF G m pl) (E - x) → ∃ S2, fX0_findKnots_l34 N n (nI x - 1) (pa (pa S1 35 (nI x) (nI (bF (couF G m pl x) E))) 36 (nI x) (nI v)) = some S2 ∧ Fr [16, 17, 29, 30, 31, 32, 33, 34, 35, 36] S0 S2 ∧ eK S2 ((lvs E (couF G m pl) E m 0 0).foldl bet none) := fun v hv => by
      subst hv
      refine ih n _ (((fS.tr (z2.mono (by decide))).tr (Fr.pa (by decide))).tr (Fr.pa (by decide))) (fun y h1 h2 => ?_) (fun y h1 h2 => ?_) (by omega) (by omega)
      · rw [row_pa, if_neg (by decide), row_pa, if_pos rfl, nI_clamp (by omega)]
        by_cases q : y = x
        · rw [q, pk_us]
        · rw [pk_un q, z2.row (by decide)]
          exact h35 y (by omega) h2
      · rw [row_pa, if_pos rfl, nI_clamp (by omega)]
        by_cases q : y = x
        · rw [q, pk_us]
        · rw [pk_un q, row_pa, if_neg (by decide), z2.row (by decide)]
          exact h36 y (by omega) h2
    by_cases hz : bF (couF G m pl x) E = 0
    · rw [if_pos hz] at hop
      rw [if_pos (by rw [hz]; rfl), show (0 : Int32) = nI 0 from rfl, nI_add]
      exact key _ hop.symm
    · rw [if_neg hz] at hop
      rw [if_neg (nI_ne0 (by omega) (by omega)), nI_1]
      exact key _ hop.symm
theorem c_knots {E N F H : Nat} {G : Int32 → Int32 → Int32 → Int32 → Int32 → Bool} {pl m : Nat → Int32} {S : SS} (hN : 12 ≤ N) (h0 : 0 < E) (hK : Kx E N F H G pl S) (hv : Lv E 18 S m) (hw : wfL E m) : ∃ S2, fX0_findKnots N S = some S2 ∧ Fr [16, 17, 29, 30, 31, 32, 33, 34, 35, 36] S S2 ∧ eK S2 ((lvs E (couF G m pl) E m 0 0).foldl bet none) := by
  have hE := hK.1
  obtain ⟨S1, z1, z2, z3⟩ := c_copy (N := N) hE hv
  have hv1 := hv.f z2 (by decide)
  unfold fX0_findKnots
  rw [bd_s z1, hv1.1, ck_in (by omega) (by omega), lt_s9]
  have f1 : Fr [36] S1 (pa S1 36 (nI E) 0) := Fr.pa (by decide)
  have hv2 := hv1.f f1 (by decide)
  rw [hv2.1, lt_s9]
  obtain ⟨S2, y1, y2, y3⟩ := c_fk hN h0 ((hK.f z2 (by decide)).f f1 (by decide)) hv2 (z3.f f1 (by decide)) hw E N (pa S1 36 (nI E) 0) Fr.rf (fun y h1 h2 => by omega) (fun y h1 h2 => by
    have : y = E := by omega
    subst this
    rw [row_pa, if_pos rfl, nI_clamp (by omega), pk_us, Nat.sub_self]
    rfl) (Nat.le_refl _) (by omega)
  exact ⟨S2, y1, ((z2.mono (by decide)).tr (f1.mono (by decide))).tr y2, y3⟩
theorem m_gl {E N F H : Nat} {G : Int32 → Int32 → Int32 → Int32 → Int32 → Bool} {pl m : Nat → Int32} {T0 : SS} (hN : 12 ≤ N) (h0 : 0 < E) (hM : Mx E N F H G pl T0) (hm : T0.1 67 = m) (hw : wfL E m) (wh : Int32) : ∀ (j i n : Nat) (T : SS), Fr [61, 62, 70] T0 T → (∀ y, y < i → T.1 70 y = nI (bF (couF G m pl y) E)) → i + j = E → j < n → ∃ T2, fX12_knots_l20 N n wh (nI i) T = (if wh = 0 then some (T2, gi T2 52 31) else some (T2, gi T2 52 32)) ∧ FT [61, 62, 67, 70] T0 T2 ∧ T2.1 67 = m ∧ eN T2 ((lvs E (couF G m pl) E m 0 0).foldl bet none) := by
  have hE := hM.1
  intro j
  induction j with
  | zero =>
    intro i n T fT h70 hi hn
    obtain ⟨n, rfl⟩ : ∃ q, n = q + 1 := ⟨n - 1, by omega⟩
    have hMT := hM.f fT (by decide)
    have e67 : T.1 67 = m := (fT.row (by decide)).trans hm
    unfold fX12_knots_l20
    rw [hMT.2.1, if_pos (nI_le (by omega) (by omega)), lt_s9]
    have f1 : FT [61, 62, 67, 70] T (pj T 52 31 (-1)) := FT.pj (Or.inl rfl)
    have e67' : (pj T 52 31 (-1)).1 67 = m := e67
    obtain ⟨T2, z1, z2, z3, z4⟩ := m_kn (E := E) (N := N) (g := couF G m pl) (m0 := m) (by omega) hE (fun a b _ _ q => by
      unfold couF at q
      rw [Bool.and_eq_true] at q
      exact q.1) E 10 (pj T 52 31 (-1)) 0 0 none (Nat.le_refl _) (by omega) (by rw [gi_pj]; exact hMT.2.1) (fun y hy => h70 y (by omega)) (by rw [e67']; exact hw) (by rw [e67']; exact ⟨rfl, fun _ _ _ => rfl⟩) (by omega) (by
        rw [Nat.zero_add, Nat.one_mul]
        exact Nat.le_trans (Nat.pow_le_pow_right (by omega) hE) (by decide)) (by
        show gi _ 52 31 = -1
        rw [gi_pj]
        rfl) (fun c hc => nomatch hc) (fun c hc => nomatch hc)
    rw [Nat.sub_self] at z1
    rw [e67'] at z3 z4
    have z1' : fX12_tryKnots N 10 (pj T 52 31 (-1)) 0 0 0 = some T2 := z1
    rw [bd_s z1']
    exact ⟨T2, rfl, (((FT.of fT).mono (by decide)).tr f1).tr (z2.mono (by decide)), z3, z4⟩
  | succ j ih =>
    intro i n T fT h70 hi hn
    obtain ⟨n, rfl⟩ : ∃ q, n = q + 1 := ⟨n - 1, by omega⟩
    have hMT := hM.f fT (by decide)
    have e67 : T.1 67 = m := (fT.row (by decide)).trans hm
    have hi' : i < E := by omega
    unfold fX12_knots_l20
    rw [hMT.2.1, if_neg (nI_ge (by omega) (by omega))]
    obtain ⟨T1, z1, z2⟩ := m_could (N := N) (by omega) hMT (by rw [e67]; exact hw) hi'
    rw [e67] at z1
    rw [b2_s z1, ck_in (by omega) (by omega), lt_s9, lt_s9, nI_1]
    refine ih (i + 1) n _ ((fT.tr (z2.mono (by decide))).tr (Fr.pa (by decide))) (fun y hy => ?_) (by omega) (by omega)
    rw [row_pa, if_pos rfl, nI_clamp (by omega)]
    by_cases q : y = i
    · rw [q, pk_us]
    · rw [pk_un q, z2.row (by decide)]
      exact h70 y (by omega)
theorem lvs_ne {E : Nat} {g : Nat → Nat → Bool} : ∀ (j : Nat) (m : Nat → Int32) (M R : Nat), lvs E g j m M R ≠ []
  | 0, m, M, R => by
    unfold lvs
    simp
  | j + 1, m, M, R => by
    have ih := lvs_ne (E := E) (g := g) j
    have : ∀ i o, lvo (E - (j + 1)) g (lvs E g j) m M R i o ≠ [] := fun i => by
      induction i with
      | zero =>
        intro o
        unfold lvo
        exact ih m M _
      | succ i ihi =>
        intro o
        unfold lvo
        split
        · intro z
          exact ihi (o + 1) (List.append_eq_nil_iff.mp z).2
        · exact ihi (o + 1)
    exact this E 0
theorem s_knots {N : Nat} (hN : 60 ≤ N) {S T : SS} (h : Rel N S T) (a1 : Int32) : ∃ (r : Int32) (S' T' : SS), (fX11_knots N S a1 = some (S', r)) ∧ (fX12_knots N T a1 = some (T', r)) ∧ Rel N S' T' := by
  obtain ⟨E, ht, hm, hl, ha, hi, hs, hz⟩ := id h
  have hc := cx_of hm ha
  obtain ⟨hE, _, hv, hw⟩ := id hc
  unfold fX11_knots fX12_knots
  rcases there2 (N := N) hm with ⟨_, e1, e2⟩ | ⟨hp, e1, e2⟩
  · rw [bd_s e1, if_pos rfl, if_pos e2]
    exact ⟨_, S, T, rfl, rfl, h⟩
  rw [bd_s e1, if_neg n10, if_neg e2]
  rcases in01 (N := N) a1 with ⟨p1, p2⟩ | ⟨p1, p2, p3, p4, p5⟩
  · rw [bd_s p1, if_pos rfl]
    rcases p2 with p2 | ⟨p2, p3⟩
    · rw [if_pos p2]
      exact ⟨_, S, T, rfl, rfl, h⟩
    · rw [if_neg p2, if_neg p3]
      exact ⟨_, S, T, rfl, rfl, h⟩
  rw [bd_s p1, if_neg n10, if_neg p2, if_pos p3]
  obtain ⟨F, H, G, hK, hM⟩ := km_of hp hm hl
  obtain ⟨S2, z1, z2, z3⟩ := c_knots (N := N) (by omega) hp hK hv hw
  obtain ⟨T2, y1, y2, y3, y4⟩ := m_gl (N := N) (by omega) hp hM rfl hw a1 E 0 N T Fr.rf (fun y hy => absurd hy (by omega)) (by omega) (by omega)
  have y1' : fX12_knots_l20 N N a1 0 T = _ := y1
  rw [bd_s z1, y1']
  have hR : Rel N S2 T2 := rel_ft h (z2.mono (by decide)) ⟨fun k j hk hj => by
    by_cases h67 : k = 67
    · rw [h67, y3]
    · exact y2.1 k j (fun q => by
        simp at q hk
        omega) hj, y2.2⟩
  cases hls : (lvs E (couF G (T.1 67) (S.1 5)) E (T.1 67) 0 0).foldl bet none with
  | none =>
    exfalso
    cases hq : lvs E (couF G (T.1 67) (S.1 5)) E (T.1 67) 0 0 with
    | nil => exact lvs_ne E _ _ _ hq
    | cons c l =>
      rw [hq] at hls
      obtain ⟨x, hx⟩ := bet_sm l c
      have hx2 : (c :: l).foldl bet none = some x := hx
      rw [hx2] at hls
      cases hls
  | some c =>
    rw [hls] at z3 y4
    rcases p5 with rfl | rfl
    · exact ⟨nI c.2, S2, T2, by rw [if_pos (show nI 0 = 0 from rfl), z3.2], by rw [if_pos (show nI 0 = 0 from rfl), y4.1], hR⟩
    · exact ⟨nI c.1, S2, T2, by rw [if_neg (by decide), z3.1], by rw [if_neg (by decide), y4.2], hR⟩
