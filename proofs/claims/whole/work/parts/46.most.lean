/-! rack, most -/
def rkQ (G : Int32 → Int32 → Int32 → Int32 → Int32 → Bool) (m pl : Nat → Int32) (d o : Nat) : Bool := decide (o = d) || !(loF m o) || !(gwF G m pl d o 1)
def rkF (E : Nat) (G : Int32 → Int32 → Int32 → Int32 → Int32 → Bool) (m pl : Nat → Int32) (d : Nat) : Bool := loF m d && allF (rkQ G m pl d) E 0
theorem allF_iff (Q : Nat → Bool) : ∀ (j i : Nat), allF Q j i = true ↔ ∀ k, i ≤ k → k < i + j → Q k = true
  | 0, i => ⟨fun _ k h1 h2 => absurd h1 (by omega), fun _ => rfl⟩
  | j + 1, i => by
    unfold allF
    rw [Bool.and_eq_true, allF_iff Q j (i + 1)]
    constructor
    · intro ⟨h1, h2⟩ k h3 h4
      by_cases e : k = i
      · subst e
        exact h1
      · exact h2 k (by omega) (by omega)
    · intro h
      exact ⟨h i (by omega) (by omega), fun k h3 h4 => h k (by omega) (by omega)⟩
theorem c_rack_l {E N : Nat} {G : Int32 → Int32 → Int32 → Int32 → Int32 → Bool} {pl m : Nat → Int32} {S : SS} (hE : E ≤ 7) (hv : Lv E 18 S m) (hf : ∀ a, a < 7 → ∃ v, v < 128 ∧ S.1 35 a = nI v ∧ ∀ b, b < 7 → v.testBit b = (decide (a < E) && decide (b < E) && foF G m pl 1 a b)) : ∀ (j i n : Nat), i + j = E → j < n → fX0_rackBits_l18 N n (nI (bF (loF m) E)) (nI (bF (rkF E G m pl) i)) (nI i) S = some (S, nI (bF (rkF E G m pl) E)) := by
  intro j
  induction j with
  | zero =>
    intro i n hi hn
    obtain ⟨n, rfl⟩ : ∃ q, n = q + 1 := ⟨n - 1, by omega⟩
    unfold fX0_rackBits_l18
    rw [hv.1, if_pos (nI_le (by omega) (by omega)), show i = E by omega]
  | succ j ih =>
    intro i n hi hn
    obtain ⟨n, rfl⟩ : ∃ q, n = q + 1 := ⟨n - 1, by omega⟩
    have hi' : i < E := by omega
    have hq := (k_sr _ (bF_128 (loF m) hE) i (by omega)).1
    rw [bF_tb] at hq
    unfold fX0_rackBits_l18
    rw [hv.1, if_neg (nI_ge (by omega) (by omega))]
    simp only [lt_s9, nI_1]
    by_cases hc : loF m i = true
    · rw [if_pos (hq.mpr (by simp [hc]; omega)), ck_in (by omega) (by omega), ga_nI (by omega)]
      obtain ⟨v, v1, v2, v3⟩ := hf i (by omega)
      rw [v2]
      by_cases h0 : v = 0
      · subst h0
        rw [if_pos nI_0, bF_or (P := rkF E G m pl) (by omega)]
        · exact ih (i + 1) n (by omega) (by omega)
        · unfold rkF
          rw [hc, Bool.true_and, allF_iff]
          intro k _ hk
          have h3 := v3 k (by omega)
          rw [Nat.zero_testBit] at h3
          have hk' : k < E := by omega
          simp only [hi', hk', decide_true, Bool.true_and] at h3
          unfold foF at h3
          unfold rkQ
          rw [hc] at h3
          by_cases e : i = k
          · subst e
            simp
          · have e2 : ¬ k = i := fun z => e z.symm
            simp only [e, e2, decide_false, Bool.not_false, Bool.true_and, Bool.false_or] at h3 ⊢
            revert h3
            cases loF m k <;> cases gwF G m pl i k 1 <;> simp
      · rw [if_neg (nI_ne0 (by omega) (by omega)), ← bF_no (P := rkF E G m pl)]
        · exact ih (i + 1) n (by omega) (by omega)
        · unfold rkF
          rw [hc, Bool.true_and]
          apply eq_false_of_ne_true
          intro hall
          rw [allF_iff] at hall
          apply h0
          apply Nat.eq_of_testBit_eq
          intro b
          rw [Nat.zero_testBit]
          by_cases hb : b < 7
          · rw [v3 b hb]
            by_cases hbE : b < E
            · have h4 := hall b (by omega) (by omega)
              unfold rkQ at h4
              unfold foF
              by_cases e : i = b
              · subst e
                simp
              · have e2 : ¬ b = i := fun z => e z.symm
                simp only [e2, decide_false, Bool.false_or] at h4
                revert h4
                cases loF m b <;> cases gwF G m pl i b 1 <;> simp
            · simp [hbE]
          · exact Nat.testBit_lt_two_pow (Nat.lt_of_lt_of_le v1 (Nat.le_trans (by decide : 128 ≤ 2 ^ 7) (Nat.pow_le_pow_right (by omega) (by omega))))
    · rw [if_neg (fun z => hc (by have := hq.mp z; simp at this; exact this.2)), ← bF_no (P := rkF E G m pl)]
      · exact ih (i + 1) n (by omega) (by omega)
      · unfold rkF
        rw [eq_false_of_ne_true hc]
        rfl
theorem c_rack {E N F H : Nat} {G : Int32 → Int32 → Int32 → Int32 → Int32 → Bool} {pl m : Nat → Int32} {S : SS} (hN : 9 ≤ N) (hk : Kx E N F H G pl S) (hv : Lv E 18 S m) (hw : wfL E m) (hpl : ∀ d, d < E → ∃ v, v ≤ 6 ∧ pl d = nI v) : ∃ S2, fX0_rackBits N S = some (S2, nI (bF (rkF E G m pl) E)) ∧ Fr [16, 17, 35] S S2 := by
  have hE := hk.1
  obtain ⟨S2, z1, z2, z3⟩ := c_fo (nn := 1) hN hk hv hw hpl
  unfold fX0_rackBits
  rw [bd_s (c_lb hN hE hv hw), bd_s z1]
  exact ⟨S2, c_rack_l hE (hv.f z2 (by decide)) z3 E 0 N (by omega) (by omega), z2⟩
theorem m_rack_i {E N F H d : Nat} {G : Int32 → Int32 → Int32 → Int32 → Int32 → Bool} {pl : Nat → Int32} {T0 : SS} (hx : Mx E N F H G pl T0) (hw : wfL E (T0.1 67)) (hpl : ∀ d, d < E → ∃ v, v ≤ 6 ∧ pl d = nI v) (hd : d < E) (kc : Int32 → Int32 → Int32 → SS → Option (SS × Int32)) (z : Int32) : ∀ (j i n : Nat) (f : Bool) (T : SS), Fr [61, 62] T0 T → i + j = E → j < n → ∃ T2, fX12_rack_l27 N kc n (nI (bF (loF (T0.1 67)) E)) z (nI d) (i01 f) (nI i) T = kc (nI (bF (loF (T0.1 67)) E)) (if (f && allF (rkQ G (T0.1 67) pl d) j i) then z ||| sl 1 (nI d) else z) (nI (d + 1)) T2 ∧ Fr [61, 62] T0 T2 := by
  have hE := hx.1
  intro j
  induction j with
  | zero =>
    intro i n f T fT hi hn
    obtain ⟨n, rfl⟩ : ∃ q, n = q + 1 := ⟨n - 1, by omega⟩
    unfold fX12_rack_l27 allF
    rw [(hx.f fT mx6162).2.1, if_pos (nI_le (by omega) (by omega)), or0]
    refine ⟨T, ?_, fT⟩
    simp only [lt_s9, nI_1]
    cases f <;> rfl
  | succ j ih =>
    intro i n f T fT hi hn
    obtain ⟨n, rfl⟩ : ∃ q, n = q + 1 := ⟨n - 1, by omega⟩
    have hi' : i < E := by omega
    unfold fX12_rack_l27 allF
    rw [(hx.f fT mx6162).2.1, if_neg (nI_ge (by omega) (by omega))]
    simp only [lt_s9, nI_1]
    cases f
    · rw [ifi0]
      exact ih (i + 1) n false T fT (by omega) (by omega)
    · rw [ifi1]
      by_cases h1 : i = d
      · have hq : rkQ G (T0.1 67) pl d i = true := by
          unfold rkQ
          simp [h1]
        rw [if_pos (by rw [h1]), hq]
        exact ih (i + 1) n true T fT (by omega) (by omega)
      · rw [if_neg (fun z => h1 ((nI_eq (by omega) (by omega)).mp z))]
        have hlo : fX12_has N (nI (bF (loF (T0.1 67)) E)) (nI i) = some (i01 (loF (T0.1 67) i)) := by
          unfold fX12_has
          have hq := (k_sr _ (bF_128 (loF (T0.1 67)) hE) i (by omega)).1
          rw [bF_tb] at hq
          by_cases hc : loF (T0.1 67) i = true
          · rw [if_pos (hq.mpr (by simp [hc]; omega)), hc]
            rfl
          · rw [if_neg (fun z => hc (by have := hq.mp z; simp at this; exact this.2)), eq_false_of_ne_true hc]
            rfl
        rw [bd_s hlo]
        cases hc : loF (T0.1 67) i
        · have hq : rkQ G (T0.1 67) pl d i = true := by
            unfold rkQ
            simp [hc]
          rw [ifi0, hq]
          exact ih (i + 1) n true T fT (by omega) (by omega)
        · rw [ifi1]
          have e67 : T.1 67 = T0.1 67 := fT.row (by decide)
          obtain ⟨T1, z1, z2⟩ := m_goes (hx.f fT mx6162) hd hi' 1
          rw [e67] at z1
          rw [b2_s z1]
          have f1 := fT.tr z2
          cases hg : gwF G (T0.1 67) pl d i 1
          · rw [ifi0]
            have e67' : T1.1 67 = T0.1 67 := f1.row (by decide)
            obtain ⟨T2, y1, y2⟩ := m_goes (hx.f f1 mx6162) hi' hd 1
            rw [e67', ← gw_sym 1 (hw.1 d hd).1 (hw.1 i hi').1 hpl hd hi', hg] at y1
            have hq : rkQ G (T0.1 67) pl d i = true := by
              unfold rkQ
              simp [hg]
            rw [b2_s y1, ifi0, hq]
            exact ih (i + 1) n true T2 (f1.tr y2) (by omega) (by omega)
          · have hq : rkQ G (T0.1 67) pl d i = false := by
              unfold rkQ
              simp [hg, hc, h1]
            rw [ifi1, hq]
            exact ih (i + 1) n false T1 f1 (by omega) (by omega)
theorem m_rack_o {E N F H : Nat} {G : Int32 → Int32 → Int32 → Int32 → Int32 → Bool} {pl : Nat → Int32} {T0 : SS} (hN : 9 ≤ N) (hx : Mx E N F H G pl T0) (hw : wfL E (T0.1 67)) (hpl : ∀ d, d < E → ∃ v, v ≤ 6 ∧ pl d = nI v) : ∀ (j i n : Nat) (T : SS), Fr [61, 62] T0 T → i + j = E → j < n → ∃ T2, fX12_rack_l9 N n (nI (bF (loF (T0.1 67)) E)) (nI (bF (rkF E G (T0.1 67) pl) i)) (nI i) T = some (T2, nI (bF (rkF E G (T0.1 67) pl) E)) ∧ Fr [61, 62] T0 T2 := by
  have hE := hx.1
  intro j
  induction j with
  | zero =>
    intro i n T fT hi hn
    obtain ⟨n, rfl⟩ : ∃ q, n = q + 1 := ⟨n - 1, by omega⟩
    unfold fX12_rack_l9
    rw [(hx.f fT mx6162).2.1, if_pos (nI_le (by omega) (by omega)), show i = E by omega]
    exact ⟨T, rfl, fT⟩
  | succ j ih =>
    intro i n T fT hi hn
    obtain ⟨n, rfl⟩ : ∃ q, n = q + 1 := ⟨n - 1, by omega⟩
    have hi' : i < E := by omega
    have hlo : fX12_has N (nI (bF (loF (T0.1 67)) E)) (nI i) = some (i01 (loF (T0.1 67) i)) := by
      unfold fX12_has
      have hq := (k_sr _ (bF_128 (loF (T0.1 67)) hE) i (by omega)).1
      rw [bF_tb] at hq
      by_cases hc : loF (T0.1 67) i = true
      · rw [if_pos (hq.mpr (by simp [hc]; omega)), hc]
        rfl
      · rw [if_neg (fun z => hc (by have := hq.mp z; simp at this; exact this.2)), eq_false_of_ne_true hc]
        rfl
    unfold fX12_rack_l9
    rw [(hx.f fT mx6162).2.1, if_neg (nI_ge (by omega) (by omega)), bd_s hlo]
    obtain ⟨T2, y1, y2⟩ := m_rack_i (N := N) hx hw hpl hi' (fX12_rack_l9 N n) (nI (bF (rkF E G (T0.1 67) pl) i)) E 0 N (loF (T0.1 67) i) T fT (by omega) (by omega)
    have y1' : fX12_rack_l27 N (fX12_rack_l9 N n) N (nI (bF (loF (T0.1 67)) E)) (nI (bF (rkF E G (T0.1 67) pl) i)) (nI i) (i01 (loF (T0.1 67) i)) 0 T = _ := y1
    rw [y1']
    have e : (if (loF (T0.1 67) i && allF (rkQ G (T0.1 67) pl i) E 0) = true then nI (bF (rkF E G (T0.1 67) pl) i) ||| sl 1 (nI i) else nI (bF (rkF E G (T0.1 67) pl) i)) = nI (bF (rkF E G (T0.1 67) pl) (i + 1)) := by
      by_cases hc : (loF (T0.1 67) i && allF (rkQ G (T0.1 67) pl i) E 0) = true
      · rw [if_pos hc, bF_or (P := rkF E G (T0.1 67) pl) (by omega) hc]
      · rw [if_neg hc, bF_no (P := rkF E G (T0.1 67) pl) (eq_false_of_ne_true hc)]
    rw [e]
    exact ih (i + 1) n T2 y2 (by omega) (by omega)
theorem m_rack {E N F H : Nat} {G : Int32 → Int32 → Int32 → Int32 → Int32 → Bool} {pl : Nat → Int32} {T : SS} (hN : 9 ≤ N) (hx : Mx E N F H G pl T) (hw : wfL E (T.1 67)) (hpl : ∀ d, d < E → ∃ v, v ≤ 6 ∧ pl d = nI v) : ∃ T2, fX12_rack N T = some (T2, nI (bF (rkF E G (T.1 67) pl) E)) ∧ Fr [61, 62] T T2 := by
  have hE := hx.1
  unfold fX12_rack
  rw [bd_s (m_lb hN hE hx.2.1 hw)]
  exact m_rack_o hN hx hw hpl E 0 N T Fr.rf (by omega) (by omega)
theorem s_most {N : Nat} (hN : 40 ≤ N) {S T : SS} (h : Rel N S T) (a1 : Int32) : ∃ (r : Int32) (S' T' : SS), (fX11_most N S a1 = some (S', r)) ∧ (fX12_most N T a1 = some (T', r)) ∧ Rel N S' T' := by
  obtain ⟨E, ht, hm, hl, ha, hi, hs, hz⟩ := id h
  have hc := cx_of hm ha
  obtain ⟨hE, _, hv, hw⟩ := id hc
  unfold fX11_most fX12_most
  rcases there2 (N := N) hm with ⟨_, e1, e2⟩ | ⟨hp, e1, e2⟩
  · rw [bd_s e1, if_pos rfl, if_pos e2]
    exact ⟨_, S, T, rfl, rfl, h⟩
  rw [bd_s e1, if_neg n10, if_neg e2]
  rcases ix3 a1 (n := 8) (by omega) with q | q | ⟨j, hj, rfl⟩
  · rw [if_neg (show ¬ a1 = 0 from lit_lo q 0 (by decide)), if_neg (show ¬ a1 = 1 from lit_lo q 1 (by decide)), if_neg (show ¬ a1 = 2 from lit_lo q 2 (by decide)), if_neg (show ¬ a1 = 3 from lit_lo q 3 (by decide)), if_neg (show ¬ a1 = 4 from lit_lo q 4 (by decide)), if_neg (show ¬ a1 = 5 from lit_lo q 5 (by decide)), if_neg (show ¬ a1 = 6 from lit_lo q 6 (by decide)), if_neg (show ¬ a1 = 7 from lit_lo q 7 (by decide)), bd_s (in_lo q), if_pos rfl]
    exact ⟨_, S, T, rfl, rfl, h⟩
  · rw [if_neg (show ¬ a1 = 0 from lit_hi q.2 0 (by decide) (n := 8) (by decide)), if_neg (show ¬ a1 = 1 from lit_hi q.2 1 (by decide) (n := 8) (by decide)), if_neg (show ¬ a1 = 2 from lit_hi q.2 2 (by decide) (n := 8) (by decide)), if_neg (show ¬ a1 = 3 from lit_hi q.2 3 (by decide) (n := 8) (by decide)), if_neg (show ¬ a1 = 4 from lit_hi q.2 4 (by decide) (n := 8) (by decide)), if_neg (show ¬ a1 = 5 from lit_hi q.2 5 (by decide) (n := 8) (by decide)), if_neg (show ¬ a1 = 6 from lit_hi q.2 6 (by decide) (n := 8) (by decide)), if_neg (show ¬ a1 = 7 from lit_hi q.2 7 (by decide) (n := 8) (by decide)), bd_s (in_hi (b := 7) (n := 8) (by omega) (by omega) (by decide) q.2), if_pos rfl]
    exact ⟨_, S, T, rfl, rfl, h⟩
  rw [bd_s (in_ok (b := 7) (n := 8) hj (by omega) (by decide)), if_neg n10]
  have hE2 : 2 ≤ E := by
    rcases hm.2.1 with q | q <;> omega
  rcases (by omega : j = 0 ∨ j = 1 ∨ j = 2 ∨ j = 3 ∨ j = 4 ∨ j = 5 ∨ j = 6 ∨ j = 7) with rfl | rfl | rfl | rfl | rfl | rfl | rfl | rfl
  · obtain ⟨r, r1, r2⟩ := tops (N := N) (q := 20) (S := S) (T := T) (W := nI 0) (g := fun d => T.1 67 (7 + d)) (by omega) hE2 hE hm.1.1 hm.1.2.1 rfl (fun d hd => ⟨(hv.2.1 d hd).2.1, by
      unfold fX12_valueOf
      rw [if_pos nI_0, a7, ck_in (by omega) (by omega), ga_nI (by omega)]⟩)
    rw [bd_s r1, bd_s r2]
    exact ⟨r, S, T, rfl, rfl, h⟩
  · obtain ⟨r, r1, r2⟩ := tops (N := N) (q := 19) (S := S) (T := T) (W := nI 1) (g := fun d => T.1 67 d) (by omega) hE2 hE hm.1.1 hm.1.2.1 rfl (fun d hd => ⟨(hv.2.1 d hd).1, by
      unfold fX12_valueOf
      rw [if_neg (by decide), if_pos (by decide), a0, ck_in (by omega) (by omega), ga_nI (by omega)]⟩)
    rw [bd_s r1, bd_s r2]
    exact ⟨r, S, T, rfl, rfl, h⟩
  · obtain ⟨F, H, G, hK, hM⟩ := km_of hp hm hl
    obtain ⟨r, r1, r2⟩ := tops (N := N) (q := 5) (S := S) (T := T) (W := nI 2) (g := fun d => S.1 5 d) (by omega) hE2 hE hm.1.1 hm.1.2.1 rfl (fun d hd => ⟨rfl, by
      unfold fX12_valueOf
      have e : fX12_of N T (nI d) 1 = some (S.1 5 d) := by
        rw [show (1 : Int32) = nI 1 from rfl, m_of (by omega) 1 (by omega), hM.2.2.2.2.2.2.1 d hd]
      rw [if_neg (by decide), if_neg (by decide), bd_s e]⟩)
    rw [bd_s r1, bd_s r2]
    exact ⟨r, S, T, rfl, rfl, h⟩
  · rw [bd_s (c_lb (by omega) hE hv hw), bd_s (m_lb (by omega) hE hm.1.2.1 hw)]
    exact ⟨_, S, T, rfl, rfl, h⟩
  · refine ⟨T.1 67 28, S, T, ?_, rfl, h⟩
    rw [hv.2.2.1]
    rfl
  · obtain ⟨F, H, G, hK, hM⟩ := km_of hp hm hl
    have hpl := pl6 hp hm
    obtain ⟨S2, z1, z2⟩ := c_rack (by omega) hK hv hw hpl
    obtain ⟨T2, y1, y2⟩ := m_rack (by omega) hM hw hpl
    rw [b2_s z1, b2_s y1]
    exact ⟨_, S2, T2, rfl, rfl, rel_fr h (z2.mono (by decide)) (y2.mono (by decide))⟩
  · obtain ⟨r, r1, r2⟩ := tales_l (N := N) hc E 0 N 0 (by omega) (by omega)
    have r1' : fX0_countTales N S = some r := r1
    have r2' : fX12_tales N T = some r := r2
    rw [bd_s r1', bd_s r2']
    exact ⟨r, S, T, rfl, rfl, h⟩
  · obtain ⟨r, r1, r2⟩ := worths_l (N := N) (by omega) hc E 0 N 0 (by omega) (by omega)
    have r1' : fX0_priceOfTales N S = some r := r1
    have r2' : fX12_worthOfAll N T = some r := r2
    rw [bd_s r1', bd_s r2']
    exact ⟨r, S, T, rfl, rfl, h⟩
