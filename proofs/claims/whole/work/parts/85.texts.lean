/-! fault and text, of both sorts -/
theorem lr_allC : ∀ k j, allC k j → ¬ lrC k j := fun k j p q => by
  simp only [allC, tapeC, millC, lawC, actC, imgC, seenC, miscC] at p
  unfold lrC at q
  omega
theorem op_allM : ∀ k j, allM k j → ¬ opM 4 k j := fun k j p q => by
  simp only [allM, tapeM, millM, lawM, actM, imgM, seenM, miscM] at p
  unfold opM lcM lrM at q
  omega
theorem s_fault {N : Nat} (hN : 10000 ≤ N) {S T : SS} (h : Rel N S T) (a1 : Int32) : ∃ (r : Int32) (S' T' : SS), (fX11_fault N S a1 = some (S', r)) ∧ (fX12_fault N T a1 = some (T', r)) ∧ Rel N S' T' := by
  unfold fX11_fault fX12_fault
  by_cases c0 : a1 = 0
  · obtain ⟨r, S2, T2, z1, z2, z3, _⟩ := fault_m (show 250 ≤ N by omega) h
    rw [if_pos c0, if_pos c0, b2_s z1, b2_s z2]
    exact ⟨r, S2, T2, rfl, rfl, z3⟩
  · rw [if_neg c0, if_neg c0]
    by_cases c1 : a1 = 1
    · obtain ⟨E, ht, hm, hl, ha, hi, hs, hz⟩ := id h
      obtain ⟨n, tp, hb, hC, hM⟩ := tp_of ht
      obtain ⟨r, S2, T2, z1, z2, z3, z4, z5⟩ := lawR (N := N) (t := 4) (by omega) hb (by omega) hC hM
      have z2' : fX12_readLaw N T 4 = some (T2, r) := z2
      rw [if_pos c1, if_pos c1, b2_s z1, b2_s z2']
      exact ⟨r, S2, T2, rfl, rfl, rel_fp h z3 z4 lr_allC op_allM⟩
    · rw [if_neg c1, if_neg c1]
      exact ⟨-2, S, T, rfl, rfl, h⟩
theorem text_l {N : Nat} (hN : 600 ≤ N) {S T : SS} (h : Rel N S T) : ∃ (r : Int32) (S' T' : SS), fX11_takeLaw N S = some (S', r) ∧ fX12_text_j22 N 1 T = some (T', r) ∧ Rel N S' T' := by
  obtain ⟨E, ht, hm, ⟨n, l1, l2, l3, l4, l5, l6⟩, ha, hi, hs, hz⟩ := id h
  unfold fX11_takeLaw fX12_text_j22
  rw [if_pos rfl, l2, l3]
  by_cases c4 : n = 4
  · rw [if_pos (show nI n = 4 by rw [c4]; rfl), if_pos (show (4 : Int32) ≤ nI n by rw [c4]; decide)]
    exact ⟨-1, S, T, rfl, rfl, h⟩
  have hn4 : n < 4 := by omega
  rw [if_neg (show ¬ nI n = 4 from fun z => c4 ((nI_eq (b := 4) (by omega) (by omega)).mp z)), if_neg (show ¬ (4 : Int32) ≤ nI n from nI_ge (b := 4) hn4 (by omega))]
  obtain ⟨k, tp, hb, hC, hM⟩ := tp_of ht
  obtain ⟨r, S2, T2, z1, z2, z3, z4, z5⟩ := lawR (N := N) (t := n) (by omega) hb (by omega) hC hM
  rw [b2_s z1, b2_s z2]
  have hk := hb.1
  -- what reading leaves of the relation
  have rM : ∀ {S' T' : SS} {P Q : Nat → Nat → Prop}, FP P S2 S' → FP Q T2 T' → (∀ k j, P k j → (k = 1 ∧ j = 1) ∨ (k = 14 ∧ j = 4) ∨ k = 48 + n) → (∀ k j, Q k j → k = 52 ∧ (j = 2 ∨ j = 13)) → Sm millC S S' ∧ Sm millM T T' ∧ Sm actC S S' ∧ Sm actM T T' ∧ Sm imgC S S' ∧ Sm imgM T T' ∧ Sm seenC S S' ∧ Sm seenM T T' ∧ Sm miscC S S' ∧ Sm miscM T T' := fun {S' T' P Q} hP hQ p q => by
    have kS : ∀ a b, ¬ (lrC a b ∨ (a = 1 ∧ b = 1) ∨ (a = 14 ∧ b = 4) ∨ a = 48 + n) → S'.1 a b = S.1 a b := fun a b x => (hP.1 a b (fun y => x (Or.inr (p a b y)))).trans (z3.1 a b (fun y => x (Or.inl y)))
    have kT : ∀ a b, ¬ (opM n a b ∨ (a = 52 ∧ (b = 2 ∨ b = 13))) → T'.1 a b = T.1 a b := fun a b x => (hQ.1 a b (fun y => x (Or.inr (q a b y)))).trans (z4.1 a b (fun y => x (Or.inl y)))
    refine ⟨fun a b y => kS a b ?_, fun a b y => kT a b ?_, fun a b y => kS a b ?_, fun a b y => kT a b ?_, fun a b y => kS a b ?_, fun a b y => kT a b ?_, fun a b y => kS a b ?_, fun a b y => kT a b ?_, fun a b y => kS a b ?_, fun a b y => kT a b ?_⟩
    · unfold millC at y
      unfold lrC
      omega
    · unfold millM at y
      unfold opM lcM lrM
      omega
    · unfold actC at y
      unfold lrC
      omega
    · unfold actM at y
      unfold opM lcM lrM
      omega
    · unfold imgC at y
      unfold lrC
      omega
    · unfold imgM at y
      unfold opM lcM lrM
      omega
    · unfold seenC at y
      unfold lrC
      omega
    · unfold seenM at y
      unfold opM lcM lrM
      omega
    · unfold miscC at y
      unfold lrC
      omega
    · unfold miscM at y
      unfold opM lcM lrM
      omega
  -- laws that stood stand
  have old : ∀ {S' T' : SS}, (∀ i, i < n → S'.1 (48 + i) = S.1 (48 + i) ∧ S'.2.2 (48 + i) = S.2.2 (48 + i)) → (∀ a b, 54 ≤ a → a ≤ 60 → ¬ opM n a b → T'.1 a b = T.1 a b) → ∀ i, i < n → lawE N i S' T' := fun {S' T'} p q i hi => by
    intro S1 T1 a1 a2 a3 a4 a5 a6
    refine l6 i hi S1 T1 (a1.trans (p i hi).1) (a2.trans (p i hi).2) (fun j hj => ?_) (a4.trans (q 57 i (by omega) (by omega) (by unfold opM lcM lrM; omega))) (fun j hj => ?_) a6
    · have x := a3 j hj
      exact ⟨x.1.trans (q 54 _ (by omega) (by omega) (by unfold opM lcM lrM; omega)), x.2.trans (q 55 _ (by omega) (by omega) (by unfold opM lcM lrM; omega))⟩
    · have x := a5 j hj
      exact ⟨x.1.trans (q 58 _ (by omega) (by omega) (by unfold opM lcM lrM; omega)), x.2.1.trans (q 59 _ (by omega) (by omega) (by unfold opM lcM lrM; omega)), x.2.2.trans (q 60 _ (by omega) (by omega) (by unfold opM lcM lrM; omega))⟩
  have g144 : gi S2 14 4 = nI n := (z3.gi (by unfold lrC; omega)).trans l2
  have g145 : gi S2 14 5 = gi S 14 5 := z3.gi (by unfold lrC; omega)
  have g13 : gi T2 52 13 = nI n := (z4.gi (by unfold opM lcM lrM; omega)).trans l3
  have g25 : gi T2 52 25 = gi T 52 25 := z4.gi (by unfold opM lcM lrM; omega)
  by_cases hr : ¬ r = -1
  · rw [if_neg hr, if_neg hr]
    obtain ⟨m1, m2, m3, m4, m5, m6, m7, m8, m9, m10⟩ := rM (FP.rf (P := fun _ _ => False)) (FP.rf (P := fun _ _ => False)) (fun _ _ q => q.elim) (fun _ _ q => q.elim)
    refine ⟨-1, S2, T2, rfl, rfl, E, rTape_c (fun a b y => z3.1 a b ?_) (fun a b y => z4.1 a b ?_) ht, rMill_c m1 m2 hm, ⟨n, l1, g144, g13, by rw [g145, g25]; exact l4, by rw [g145]; exact l5, old (fun i hi => ⟨z3.row (by unfold lrC; intro j; omega), by rw [z3.2]⟩) (fun a b _ _ x => z4.1 a b x)⟩, rAct_c m3 m4 ha, rImg_c m5 m6 hi, rSeen_c m7 m8 hs, rMisc_c m9 m10 hz⟩
    · unfold tapeC at y
      unfold lrC
      omega
    · unfold tapeM at y
      unfold opM lcM lrM
      omega
  have hr1 : r = -1 := Decidable.not_not.mp hr
  obtain ⟨a', cs, hLC, hcs⟩ := z5 hr1
  obtain ⟨b1, b2, b3, b4, b5, b6, b7, b8, b9, b10, b11⟩ := hLC
  have han := b1.2.2.2.2.2
  rw [if_pos hr1, if_pos hr1]
  have hlen : (psC 0 cs).length < 240 := by omega
  have e12 : gi (pj S2 1 1 0) 12 2 = nI (psC 0 cs).length := b2.1
  have e144 : gi (pj S2 1 1 0) 14 4 = nI n := g144
  have ct : (nI n).toNatClampNeg = n := nI_clamp (by omega)
  have cl : (nI (psC 0 cs).length).toNatClampNeg = (psC 0 cs).length := nI_clamp (by omega)
  unfold fX2_add
  rw [lt_s9, e12, e144, if_neg (show ¬ (4 : Int32) ≤ nI n from nI_ge (b := 4) hn4 (by omega)), if_neg (nI_pos (by omega)), if_pos (show nI (psC 0 cs).length ≤ Int32.ofNat (aln (pj S2 1 1 0).2.2 13) from nI_le (b := 240) (by omega) (by omega)), ck_in hn4 (by omega), ck_t (decide_eq_true (show nI (psC 0 cs).length < 240 from nI_lt (b := 240) hlen (by omega))), ck_t (decide_eq_true (show aln (pj S2 1 1 0).2.2 13 = 240 from rfl)), ct]
  simp only [lt_s9]
  have eA : gi (adS (pj S2 1 1 0) n 13 (nI (psC 0 cs).length)) 14 4 = nI n := by
    unfold gi
    rw [adS_row (by omega)]
    exact e144
  have eB : gi (pj T2 52 2 0) 52 13 = nI n := by
    rw [gi_ne (by decide)]
    exact g13
  rw [eA, eB, nI_1, b2_s rfl]
  have eC : gi (pj (adS (pj S2 1 1 0) n 13 (nI (psC 0 cs).length)) 14 4 (nI (n + 1))) 14 4 = nI (n + 1) := by
    rw [gi_pj]
    rfl
  have eD : gi (pj (pj T2 52 2 0) 52 13 (nI (n + 1))) 52 13 = nI (n + 1) := by
    rw [gi_pj]
    rfl
  rw [eC, eD]
  have fT : FP (fun k j => k = 52 ∧ (j = 2 ∨ j = 13)) T2 (pj (pj T2 52 2 0) 52 13 (nI (n + 1))) := (FP.pj ⟨rfl, Or.inl rfl⟩).tr (FP.pj ⟨rfl, Or.inr rfl⟩)
  have sR : ∀ k, k ≠ 14 → k ≠ 48 + n → k ≠ 1 → (pj (adS (pj S2 1 1 0) n 13 (nI (psC 0 cs).length)) 14 4 (nI (n + 1))).1 k = S2.1 k := fun k h1 h2 h3 => by
    rw [pj_ne h1, adS_row h2, pj_ne h3]
  have sJ : ∀ k j, ¬ ((k = 1 ∧ j = 1) ∨ (k = 14 ∧ j = 4) ∨ k = 48 + n) → (pj (adS (pj S2 1 1 0) n 13 (nI (psC 0 cs).length)) 14 4 (nI (n + 1))).1 k j = S2.1 k j := fun k j hq => by
    have x1 : (pj (adS (pj S2 1 1 0) n 13 (nI (psC 0 cs).length)) 14 4 (nI (n + 1))).1 k j = (adS (pj S2 1 1 0) n 13 (nI (psC 0 cs).length)).1 k j := (FP.pj (P := fun a b => a = 14 ∧ b = 4) ⟨rfl, rfl⟩).1 k j (by omega)
    have x2 : (pj S2 1 1 0).1 k j = S2.1 k j := (FP.pj (P := fun a b => a = 1 ∧ b = 1) ⟨rfl, rfl⟩).1 k j (by omega)
    rw [x1, adS_row (by omega), x2]
  have s2i : ∀ i, i < n → (pj (adS (pj S2 1 1 0) n 13 (nI (psC 0 cs).length)) 14 4 (nI (n + 1))).2.2 (48 + i) = S2.2.2 (48 + i) := fun i hi => by
    show (if 48 + i = 48 + n then _ else S2.2.2 (48 + i)) = _
    rw [if_neg (by omega)]
  have s2n : (pj (adS (pj S2 1 1 0) n 13 (nI (psC 0 cs).length)) 14 4 (nI (n + 1))).2.2 (48 + n) = (psC 0 cs).length := by
    show (if 48 + n = 48 + n then (nI (psC 0 cs).length).toNatClampNeg else _) = _
    rw [if_pos rfl, cl]
  have srn : ∀ j x, (psC 0 cs)[j]? = some x → (pj (adS (pj S2 1 1 0) n 13 (nI (psC 0 cs).length)) 14 4 (nI (n + 1))).1 (48 + n) j = x := fun j x hx => by
    have hj : j < (psC 0 cs).length := (List.getElem?_eq_some_iff.mp hx).1
    rw [pj_ne (by omega)]
    show (if 48 + n = 48 + n then cpy0 (pj S2 1 1 0) 13 (nI (psC 0 cs).length) else _) j = x
    rw [if_pos rfl]
    unfold cpy0
    rw [cl, pk_cpy_in (by omega) (by omega), pj_ne (by decide), Nat.sub_zero, Nat.zero_add]
    exact b2.2 j x hx
  have e11 : gi (pj (adS (pj S2 1 1 0) n 13 (nI (psC 0 cs).length)) 14 4 (nI (n + 1))) 1 1 = nI 0 := by
    unfold gi
    rw [pj_ne (by decide), adS_row (by omega)]
    show gi (pj S2 1 1 0) 1 1 = nI 0
    rw [gi_pj]
    rfl
  have e145 : gi (pj (adS (pj S2 1 1 0) n 13 (nI (psC 0 cs).length)) 14 4 (nI (n + 1))) 14 5 = gi S 14 5 := (sJ 14 5 (by omega)).trans g145
  revert eC sR sJ s2i s2n srn e11 e145
  generalize pj (adS (pj S2 1 1 0) n 13 (nI (psC 0 cs).length)) 14 4 (nI (n + 1)) = S3
  intro eC sR sJ s2i s2n srn e11 e145
  have e2 : gi (pj (pj T2 52 2 0) 52 13 (nI (n + 1))) 52 2 = nI 0 := by
    rw [gi_ne (by decide), gi_pj]
    rfl
  have e25 : gi (pj (pj T2 52 2 0) 52 13 (nI (n + 1))) 52 25 = gi T 52 25 := (fT.gi (by omega)).trans g25
  revert fT eD e2 e25
  generalize pj (pj T2 52 2 0) 52 13 (nI (n + 1)) = T3
  intro eD fT e2 e25
  have kS : ∀ a b, ¬ (lrC a b ∨ (a = 1 ∧ b = 1) ∨ (a = 14 ∧ b = 4) ∨ a = 48 + n) → S3.1 a b = S.1 a b := fun a b x => (sJ a b (fun y => x (Or.inr y))).trans (z3.1 a b (fun y => x (Or.inl y)))
  have kT : ∀ a b, ¬ (opM n a b ∨ (a = 52 ∧ (b = 2 ∨ b = 13))) → T3.1 a b = T.1 a b := fun a b x => (fT.1 a b (fun y => x (Or.inr y))).trans (z4.1 a b (fun y => x (Or.inl y)))
  have hLW : LW n cs S3 T3 := by
    refine ⟨s2n, srn, ⟨(fT.1 56 n (by omega)).trans b3.1, fun i o ho => ⟨(fT.1 54 _ (by omega)).trans (b3.2 i o ho).1, (fT.1 55 _ (by omega)).trans (b3.2 i o ho).2⟩⟩, (fT.1 57 n (by omega)).trans b6, rwM_c cs 0 0 (fun i _ _ => ⟨fT.1 _ _ (by omega), fT.1 _ _ (by omega), fT.1 _ _ (by omega)⟩) b7, b8, by omega, by omega, by omega⟩
  refine ⟨nI (n + 1) - 1, S3, T3, rfl, rfl, E, ⟨0, by omega, e11, e2, fun j hj => absurd hj (by omega)⟩, rMill_c (fun a b y => kS a b ?_) (fun a b y => kT a b ?_) hm, ⟨n + 1, by omega, eC, eD, by rw [e145, e25]; exact l4, ?_, fun i hi => ?_⟩, rAct_c (fun a b y => kS a b ?_) (fun a b y => kT a b ?_) ha, rImg_c (fun a b y => kS a b ?_) (fun a b y => kT a b ?_) hi, rSeen_c (fun a b y => kS a b ?_) (fun a b y => kT a b ?_) hs, rMisc_c (fun a b y => kS a b ?_) (fun a b y => kT a b ?_) hz⟩
  · unfold millC at y
    unfold lrC
    omega
  · unfold millM at y
    unfold opM lcM lrM
    omega
  · rw [e145]
    rcases l5 with q | ⟨i, q1, q2⟩
    · exact Or.inl q
    · exact Or.inr ⟨i, by omega, q2⟩
  · by_cases q : i = n
    · rw [q]
      exact law_of hN hn4 hLW
    · exact old (S' := S3) (T' := T3) (fun i hi => ⟨funext fun j => kS _ _ (by unfold lrC; omega), (s2i i hi).trans (by rw [z3.2])⟩) (fun a b h1 h2 x => kT a b (fun y => by
        rcases y with y | y
        · exact x y
        · omega)) i (by omega)
  · unfold actC at y
    unfold lrC
    omega
  · unfold actM at y
    unfold opM lcM lrM
    omega
  · unfold imgC at y
    unfold lrC
    omega
  · unfold imgM at y
    unfold opM lcM lrM
    omega
  · unfold seenC at y
    unfold lrC
    omega
  · unfold seenM at y
    unfold opM lcM lrM
    omega
  · unfold miscC at y
    unfold lrC
    omega
  · unfold miscM at y
    unfold opM lcM lrM
    omega
theorem s_text {N : Nat} (hN : 10000 ≤ N) {S T : SS} (h : Rel N S T) (a1 : Int32) : ∃ (r : Int32) (S' T' : SS), (fX11_text N S a1 = some (S', r)) ∧ (fX12_text N T a1 = some (T', r)) ∧ Rel N S' T' := by
  by_cases c0 : a1 = 0
  · rw [c0]
    exact text_m (show 300 ≤ N by omega) h
  · unfold fX11_text fX12_text
    rw [if_neg c0, if_neg c0]
    by_cases c1 : a1 = 1
    · obtain ⟨r, S2, T2, z1, z2, z3⟩ := text_l (show 600 ≤ N by omega) h
      rw [if_pos c1, b2_s z1, c1]
      exact ⟨r, S2, T2, rfl, z2, z3⟩
    · rw [if_neg c1]
      unfold fX12_text_j22
      rw [if_neg c1]
      exact ⟨-1, S, T, rfl, rfl, h⟩
/-! all calls together -/
theorem sim_all : ∃ (N : Nat) (Rel : SS → SS → Prop), SIM N Rel ∧ Rel S0 T0 := by
  have hN : 10000 ≤ 10000 := Nat.le_refl _
  refine ⟨10000, Rel 10000, ⟨fun S T h a b c d e => s_feed hN h a b c d e, fun S T h a => s_end h a, fun S T h a => s_fault hN h a, fun S T h a => s_text hN h a, fun S T h a => s_rule h a, fun S T h a b => s_thread h a b, fun S T h a => s_law h a, fun S T h a b => s_attempt hN h a b, fun S T h a => s_pull hN h a, fun S T h a => s_sell hN h a, fun S T h a b => s_dye hN h a b, fun S T h a => s_give hN h a, fun S T h a => s_days hN h a, fun S T h a => s_wakes h a, fun S T h a b => s_years hN h a b, fun S T h a => s_status h a, fun S T h => s_undo hN h, fun S T h a b => s_log h a b, fun S T h a b => s_fits (by omega) h a b, fun S T h a => s_could (by omega) h a, fun S T h a => s_knots (by omega) h a, fun S T h a => s_tale (by omega) h a, fun S T h a b => s_plan (by omega) h a b, fun S T h a => s_blankets (by omega) h a, fun S T h a b c hb => s_seen h a b c hb, fun S T h a b => s_plies (by omega) h a b, fun S T h a => s_ask (by omega) h a, fun S T h a b c d e => s_game (by omega) h a b c d e, fun S T h a b c => s_rests (by omega) h a b c, fun S T h a b => s_odds (by omega) h a b, fun S T h a b => s_story (by omega) h a b, fun S T h a b => s_shares (by omega) h a b, fun S T h a => s_most (by omega) h a, fun S T h => s_image hN h, fun S T h => s_back hN h, fun S T h a => s_count h a⟩, rel0⟩
