/-! a law read by both: clauses one by one -/
theorem b2_id (x : Option (SS × Int32)) : (b2 x fun s r => some (s, r)) = x := by
  cases x with
  | none => rfl
  | some p => rfl
theorem j184_bad {N t k c m w : Nat} {x2 : Int32} {T : SS} (ht : t ≤ 4) (hk : k < 700) (hw : w < 2 ^ 31) (h4 : gi T 52 4 = nI w) (h14 : gi T 52 14 = nI t) (h56 : T.1 56 t = nI c) (h57 : T.1 57 t = nI m) : ∃ T2, fX12_clause_j184 N (nI k) x2 T = some T2 ∧ gi T2 52 4 = nI w ∧ FP (fun a b => (a = 59 ∧ b = k) ∨ (a = 60 ∧ b = k) ∨ (a = 57 ∧ b = t)) T T2 := by
  have ckk : (nI k).toNatClampNeg = k := nI_clamp (by omega)
  unfold fX12_clause_j184
  rw [ck_in hk (by omega), ck_in hk (by omega), lt_s9]
  have f59 : FP (fun a b => a = 59 ∧ b = k) T (pa T 59 (nI k) (ga T 58 (nI k))) := FP.pa ⟨rfl, ckk⟩
  revert f59
  generalize pa T 59 (nI k) (ga T 58 (nI k)) = T3
  intro f59
  have e4 : gi T3 52 4 = nI w := (f59.gi (by omega)).trans h4
  obtain ⟨T6, x1, _, _, x4⟩ := m_j251 (N := N) (k := k) ht hk ((f59.gi (by omega)).trans h14) ((f59.1 56 t (by omega)).trans h56) ((f59.1 57 t (by omega)).trans h57)
  rw [e4, if_neg (nI_m1 hw), x1]
  refine ⟨T6, ?_, (x4.gi (by omega)).trans e4, (f59.mono (fun a b q => Or.inl q)).tr (x4.mono (fun a b q => Or.inr q))⟩
  split <;> rfl
theorem ck_lc {t k a b : Nat} (hk1 : 140 * t ≤ k) (hk2 : k < 140 * (t + 1)) (h : (a = 59 ∧ b = k) ∨ (a = 60 ∧ b = k) ∨ (a = 57 ∧ b = t)) : lcM t a b := by
  unfold lcM
  omega
theorem x_clause {n N t a : Nat} {tp : Nat → Nat} {cs : List (List (Nat × Nat) × List (Nat × Nat))} {S T : SS} (hN : 250 ≤ N) (hb : tpB n tp) (ht : t ≤ 4) (h : LC n tp t a cs S T) : ClR n tp t a cs S T (fX3_readClause N S) (fX12_clause N T) := by
  have hn := hb.1
  obtain ⟨h1, h2, h3, h4, h5, h6, h7, h8, h9, h10, h11⟩ := h
  obtain ⟨hC, hM, hS, hT, hw4, han⟩ := id h1
  have kB : 140 * t + cs.length < 700 := by omega
  have ckk : (nI (140 * t + cs.length)).toNatClampNeg = 140 * t + cs.length := nI_clamp (by omega)
  have e57 : ga T 57 (nI t) = nI cs.length := by
    rw [ga_nI (by omega)]
    exact h6
  have ek : (140 : Int32) * nI t + nI cs.length = nI (140 * t + cs.length) := by
    show nI 140 * nI t + nI cs.length = _
    rw [pk_mul, nI_add]
  obtain ⟨T6, t1, t2, t3⟩ := m_look hN hb hM hT han
  have hsk := sk_le (tp := tp) han
  have u4 : gi T6 52 4 = -1 := (t2.gi (by simp [atM])).trans hw4
  unfold fX3_readClause fX12_clause
  rw [h4, ck_in (by omega) (by omega), lt_s9, e57, ek, if_pos hw4, b2_s t1]
  have mA : ∀ k j, atM k j → lcM t k j := fun k j q => lr_lc (atM_lr q)
  have j71b : ∀ (w : Nat) (T' : SS), w ≤ n → gi T' 52 4 = nI w → fX12_clause_j71 N (nI (140 * t + cs.length)) T' = some (pj T' 52 3 (gi T' 52 3 + 1)) := fun w T' hw h => by
    unfold fX12_clause_j71
    have : ¬ gi (pj T' 52 3 (gi T' 52 3 + 1)) 52 4 = -1 := by
      rw [gi_ne (by decide), h]
      exact nI_m1 (by omega)
    rw [lt_s9, if_neg this]
  rcases (c_take hN hb hC hS han 121 (w := 121) rfl (by omega)).symm with ⟨q1, S3, s1, s2, s3⟩ | ⟨q1, q2, S3, s1, s2, s3⟩
  · -- no y
    rw [b2_s s1, if_pos rfl, if_neg q1, bd_s (m_bad1 u4), t3]
    unfold fX12_clause_j40
    have e1 : gi (pj T6 52 4 (nI (sk n tp a))) 52 4 = nI (sk n tp a) := by
      rw [gi_pj]
      rfl
    have e2 : gi (pj (pj T6 52 4 (nI (sk n tp a))) 52 3 (gi (pj T6 52 4 (nI (sk n tp a))) 52 3 + 1)) 52 4 = nI (sk n tp a) := by
      rw [gi_ne (by decide)]
      exact e1
    rw [lt_s9, e2, if_neg (nI_m1 (by omega)), j71b _ _ hsk.2 e2]
    exact Or.inr ⟨_, S3, _, rfl, rfl, hsk.2, s3, by rw [gi_ne (by decide)]; exact e2, s2.mono (fun k j => atC_lr), (((t2.mono mA).tr (FP.pj (by unfold lcM lrM; omega))).tr (FP.pj (by unfold lcM lrM; omega))).tr (FP.pj (by unfold lcM lrM; omega))⟩
  · rw [b2_s s1, if_neg n10, if_pos q1]
    have hC3 : tpC n tp S3 := hC.f s2 (by simp [atC]) (by simp [atC])
    have hM6 : tpM n tp T6 := hM.f t2 (by simp [atM]) (by simp [atM])
    unfold fX12_clause_j40
    rw [lt_s9, t3, nI_1]
    generalize hA : sk n tp a = A at *
    obtain ⟨p1, p2, p3⟩ := pjM (a := A + 1) hM6
    have v4 : gi (pj T6 52 3 (nI (A + 1))) 52 4 = -1 := (p3.gi (by simp [atM])).trans u4
    have fT7 : FP atM T (pj T6 52 3 (nI (A + 1))) := t2.tr p3
    revert p1 p2 v4 fT7
    generalize pj T6 52 3 (nI (A + 1)) = T7
    intro p1 p2 v4 fT7
    obtain ⟨T8, x1, x2, x3⟩ := m_look hN hb p1 p2 q2
    have hskB := sk_le (tp := tp) q2
    have w4 : gi T8 52 4 = -1 := (x2.gi (by simp [atM])).trans v4
    rw [if_pos v4, b2_s x1]
    rcases (c_take hN hb hC3 s3 q2 58 (w := 58) rfl (by omega)).symm with ⟨r1, S7, y1, y2, y3⟩ | ⟨r1, r2, S7, y1, y2, y3⟩
    · -- no sign behind the y
      rw [b2_s y1, if_pos rfl, if_neg r1, bd_s (m_bad1 w4), x3]
      have e1 : gi (pj T8 52 4 (nI (sk n tp (A + 1)))) 52 4 = nI (sk n tp (A + 1)) := by
        rw [gi_pj]
        rfl
      rw [j71b _ _ hskB.2 e1]
      exact Or.inr ⟨_, S7, _, rfl, rfl, hskB.2, y3, by rw [gi_ne (by decide)]; exact e1, (s2.tr y2).mono (fun k j => atC_lr), (((fT7.tr x2).mono mA).tr (FP.pj (by unfold lcM lrM; omega))).tr (FP.pj (by unfold lcM lrM; omega))⟩
    · rw [b2_s y1, if_neg n10, if_pos r1]
      have hC7 : tpC n tp S7 := hC3.f y2 (by simp [atC]) (by simp [atC])
      have hM8 : tpM n tp T8 := p1.f x2 (by simp [atM]) (by simp [atM])
      unfold fX12_clause_j71
      rw [lt_s9, x3, nI_1]
      generalize hB : sk n tp (A + 1) = B at *
      obtain ⟨o1, o2, o3⟩ := pjM (a := B + 1) hM8
      have z4 : gi (pj T8 52 3 (nI (B + 1))) 52 4 = -1 := (o3.gi (by simp [atM])).trans w4
      have fT9 : FP atM T (pj T8 52 3 (nI (B + 1))) := (fT7.tr x2).tr o3
      revert o1 o2 z4 fT9
      generalize pj T8 52 3 (nI (B + 1)) = T9
      intro o1 o2 z4 fT9
      have z14 : gi T9 52 14 = nI t := (fT9.gi (by simp [atM])).trans h4
      have z56 : ga T9 56 (nI t) = nI (cdF cs).length := by
        rw [ga_nI (by omega), fT9.1 56 t (by simp [atM])]
        exact h3.1
      rw [if_pos z4, z14, ck_in (by omega) (by omega), ck_in kB (by omega), lt_s9, z56]
      have f58 : FP (fun a b => a = 58 ∧ b = 140 * t + cs.length) T9 (pa T9 58 (nI (140 * t + cs.length)) (nI (cdF cs).length)) := FP.pa ⟨rfl, ckk⟩
      have v58 : (pa T9 58 (nI (140 * t + cs.length)) (nI (cdF cs).length)).1 58 (140 * t + cs.length) = nI (cdF cs).length := by
        rw [row_pa, if_pos rfl, ckk, pk_us]
      revert f58 v58
      generalize pa T9 58 (nI (140 * t + cs.length)) (nI (cdF cs).length) = T10
      intro f58 v58
      have fT10 : FP (lcM t) T T10 := (fT9.mono mA).tr (f58.mono (fun k j q => by unfold lcM; omega))
      have fS7 : FP atC S S7 := s2.tr y2
      have hS7 : FP lrC S S7 := fS7.mono (fun k j => atC_lr)
      have cd10 : cdM T10 t (cdF cs) := by
        have q := h3.f fT9 (fun k j q => q.1)
        exact ⟨(f58.1 56 t (by omega)).trans q.1, fun i o ho => ⟨(f58.1 54 _ (by omega)).trans (q.2 i o ho).1, (f58.1 55 _ (by omega)).trans (q.2 i o ho).2⟩⟩
      have b10 : LB n tp t (B + 1) (psC 0 cs) (cdF cs) 0 S7 T10 := ⟨⟨hC7, o1.f f58 (by omega) (by intro j; omega), y3, (f58.gi (by omega)).trans o2, (f58.gi (by omega)).trans z4, r2⟩, h2.f fS7 (by simp [atC]) (by simp [atC]), cd10, (f58.gi (by omega)).trans z14, (f58.gi (by omega)).trans ((fT9.gi (by simp [atM])).trans h5), by omega, h11, by omega⟩
      have hk10 : LK t cs T10 := by
        refine ⟨(f58.1 57 t (by omega)).trans ((fT9.1 57 t (by simp [atM])).trans h6), rwM_c cs 0 0 (fun i _ hi => ⟨?_, ?_, ?_⟩) h7, v58⟩
        · rw [f58.1 58 _ (by omega), fT9.1 58 _ (by simp [atM])]
        · rw [f58.1 59 _ (by omega), fT9.1 59 _ (by simp [atM])]
        · rw [f58.1 60 _ (by omega), fT9.1 60 _ (by simp [atM])]
      obtain ⟨S11, T11, l1, l2, l3, l4, b11, hD⟩ := b10.look hN hb
      have hss : sk n tp (sk n tp (B + 1)) = sk n tp (B + 1) := sk_sk r2
      rw [b2_s l1, b2_s l2]
      generalize sk n tp (B + 1) = D at *
      have hk11 : LK t cs T11 := hk10.f l4 (fun k j q => lr_LK k j (atM_lr q))
      have fS11 : FP lrC S S11 := hS7.tr (l3.mono (fun k j => atC_lr))
      have fT11 : FP (lcM t) T T11 := fT10.tr (l4.mono mA)
      obtain ⟨T12, m1, m2, m3⟩ := m_look hN hb b11.1.2.1 b11.1.2.2.2.1 b11.1.2.2.2.2.2
      rw [hss] at m1 m3
      have b12 : LB n tp t D (psC 0 cs) (cdF cs) 0 S11 T12 := by
        obtain ⟨⟨g1, g2, g3, g4, g5, g6⟩, k2, k3, k4, k5, k6, k7, k8⟩ := b11
        exact ⟨⟨g1, g2.f m2 (by simp [atM]) (by simp [atM]), g3, m3, (m2.gi (by simp [atM])).trans g5, g6⟩, k2, k3.f m2 (fun k j q => q.1), (m2.gi (by simp [atM])).trans k4, (m2.gi (by simp [atM])).trans k5, k6, k7, k8⟩
      have hk12 : LK t cs T12 := hk11.f m2 (fun k j q => lr_LK k j (atM_lr q))
      have fT12 : FP (lcM t) T T12 := fT11.tr (m2.mono mA)
      have lenB : (psC 0 cs).length + cs.length ≤ a ∧ a + 2 ≤ D := by omega
      have badJ : ∀ (w c' : Nat) (x2 : Int32) (S2 T0 T2 : SS), w ≤ n → gi S2 1 2 = nI w → gi T2 52 4 = nI w → T2.1 56 t = nI c' → LK t cs T0 → gi T0 52 14 = nI t → FP (lrM t) T0 T2 → FP (lcM t) T T0 → FP lrC S S2 → ClR n tp t a cs S T (some (S2, 0)) (fX12_clause_j184 N (nI (140 * t + cs.length)) x2 T2) := fun w c' x2 S2 T0 T2 hw e1 e2 e3 hk e14 fa fb fc => by
        have hk2 := hk.f fa lr_LK
        obtain ⟨T5, j1, j2, j3⟩ := j184_bad (N := N) (k := 140 * t + cs.length) (x2 := x2) ht kB (by omega) e2 ((fa.gi (by unfold lrM; omega)).trans e14) e3 hk2.1
        rw [j1]
        exact Or.inr ⟨w, S2, T5, rfl, rfl, hw, e1, j2, fc, (fb.tr (fa.mono (fun k j => lr_lc))).tr (j3.mono (fun k j q => ck_lc (by omega) (by omega) q))⟩
      have test : ∀ T' : SS, LB n tp t D (psC 0 cs) (cdF cs) 0 S11 T' → LK t cs T' → FP (lcM t) T T' → ClR n tp t a cs S T (fX3_readClause_j50 N S11) (fX12_clause_j123 N (nI (140 * t + cs.length)) T') := fun T' bT hkT fT' => by
        unfold fX3_readClause_j50 fX3_readClause_j51 fX3_readClause_j66 fX3_readClause_j83 fX3_readConditioned fX12_clause_j123 fX12_clause_j128
        rw [if_pos rfl, if_pos rfl, if_neg n10, b2_id]
        have r := x_cond (kU := 16) (uU := 16) (dp := 0) (recC := fX3_readUnit N 9) (recM := fX12_unit N 9) hN hb ht (by omega) (fun a ls lc S T h => x_unit hN hb ht 9 0 a ls lc S T (by omega) (by omega) h) bT
        rcases r with ⟨a1, c, S2, T2, e1, e2, e3, e4, e5, e6, e7⟩ | ⟨w, S2, T2, c', e1, e2, e3, e4, e5, e6, e7, e8, e9⟩
        · have e1' : fX3_readCondition N (fX3_readUnit N 9) S11 0 0 = some (S2, 1) := e1
          rw [b2_s e1', if_neg n10, bd_s e2]
          exact x_tailQ hN hb ht e3 (hkT.f e7 lr_LK) h8 e5 h9 h10 h11 (by omega) (fS11.tr e6) (fT'.tr (e7.mono (fun k j => lr_lc)))
        · have e1' : fX3_readCondition N (fX3_readUnit N 9) S11 0 0 = some (S2, 0) := e1
          rw [b2_s e1', if_pos rfl, bd_s e2]
          exact badJ w c' 1 S2 T' T2 e3 e4 e5 e6 hkT bT.2.2.2.1 e9 fT' (fS11.tr e8)
      by_cases c33 : ch n tp D = 33
      · rw [if_pos c33, if_pos c33]
        exact test T11 b11 hk11 fT11
      · rw [if_neg c33, if_neg c33, b2_s m1]
        by_cases c40 : ch n tp D = 40
        · rw [if_pos c40, if_pos c40]
          exact test T12 b12 hk12 fT12
        · rw [if_neg c40, if_neg c40]
          unfold fX3_readClause_j51 fX12_clause_j128
          rw [if_neg n10, if_pos rfl]
          have r := x_sum hN hb ht 9 0 _ _ _ _ _ (by omega) (by omega) b12
          rcases r with ⟨a1, s, S2, T2, e1, e2, e3, e4, e5, e6, e7⟩ | ⟨w, S2, T2, c', e1, e2, e3, e4, e5, e6, e7, e8, e9⟩
          · have e1' : fX3_readSum N 9 S11 0 = some (S2, 1) := e1
            have hk2 : LK t cs T2 := hk12.f e7 lr_LK
            rw [b2_s e1', if_neg n10, bd_s e2, if_pos e3.1.2.2.2.2.1]
            unfold fX3_readClause_j66
            rw [if_neg n10]
            obtain ⟨S5, T5, n1, n2, n3, n4, b5, hE⟩ := e3.look hN hb
            rw [b2_s n1, b2_s n2]
            generalize sk n tp a1 = A1 at *
            have hk5 : LK t cs T5 := hk2.f n4 (fun k j q => lr_LK k j (atM_lr q))
            have fS5 : FP lrC S S5 := (fS11.tr e6).tr (n3.mono (fun k j => atC_lr))
            have fT5 : FP (lcM t) T T5 := (fT12.tr (e7.mono (fun k j => lr_lc))).tr (n4.mono mA)
            obtain ⟨g0, g1⟩ := signs (N := N) (ch n tp A1)
            rw [g0]
            rcases g1 with ⟨g1, _⟩ | ⟨g1, _⟩
            · -- a sum alone
              rw [bd_s g1, bd_s g1, if_pos rfl, if_pos rfl]
              have hls : (psC 0 cs ++ s.map stI).length = (psC 0 cs).length + s.length := by
                rw [List.length_append, List.length_map]
              have hlc : (cdF cs ++ s).length = (cdF cs).length + s.length := List.length_append
              have hA1 := b5.1.2.2.2.2.2
              obtain ⟨S6, i1, i2, i3⟩ := c_wrt (N := N) (x := 10020) b5.2.1 (by omega)
              rw [bd_s i1]
              unfold fX12_clause_j166 fX12_clause_j167 fX12_clause_j184
              rw [if_pos rfl, ck_in kB (by omega), ck_in kB (by omega), lt_s9, if_pos rfl]
              have g58 : ga T5 58 (nI (140 * t + cs.length)) = nI (cdF cs).length := by
                rw [ga_nI (by omega)]
                exact hk5.2.2
              rw [g58]
              have f59 : FP (fun a b => a = 59 ∧ b = 140 * t + cs.length) T5 (pa T5 59 (nI (140 * t + cs.length)) (nI (cdF cs).length)) := FP.pa ⟨rfl, ckk⟩
              have v59 : (pa T5 59 (nI (140 * t + cs.length)) (nI (cdF cs).length)).1 59 (140 * t + cs.length) = nI (cdF cs).length := by
                rw [row_pa, if_pos rfl, ckk, pk_us]
              revert f59 v59
              generalize pa T5 59 (nI (140 * t + cs.length)) (nI (cdF cs).length) = T13
              intro f59 v59
              have hk13 : LK t cs T13 := hk5.f f59 (fun k j q => by omega)
              obtain ⟨T14, j1, j2, j3, j4⟩ := m_j251 (N := N) (k := 140 * t + cs.length) (c := (cdF cs ++ s).length) ht kB ((f59.gi (by omega)).trans b5.2.2.2.1) ((f59.1 56 t (by omega)).trans b5.2.2.1.1) hk13.1
              rw [j1]
              have efin : psC 0 (cs ++ [([], s)]) = psC 0 cs ++ s.map stI ++ [10020] := by
                rw [psC_app]
                unfold cst
                rw [if_pos (show (([], s) : List (Nat × Nat) × List (Nat × Nat)).1.length = 0 from rfl), List.append_assoc]
              have ecd : cdF (cs ++ [([], s)]) = cdF cs ++ s := by
                rw [cdF_app]
                rfl
              have fj : FP (fun a b => (a = 59 ∧ b = 140 * t + cs.length) ∨ (a = 60 ∧ b = 140 * t + cs.length) ∨ (a = 57 ∧ b = t)) T5 T14 := (f59.mono (fun a b q => Or.inl q)).tr (j4.mono (fun a b q => Or.inr q))
              refine Or.inl ⟨A1, ([], s), S6, T14, rfl, rfl, ⟨b5.1.f i3 fj (by unfold wrC; omega) (by unfold wrC; intro j; omega) (by unfold wrC; omega) (by omega) (by intro j; omega) (by omega) (by omega), ?_, ?_, (fj.gi (by omega)).trans b5.2.2.2.1, (fj.gi (by omega)).trans b5.2.2.2.2.1, ?_, ?_, ?_, ?_, ?_, ?_⟩, by omega, fS5.tr (i3.mono (fun k j => wrC_lr)), fT5.tr (fj.mono (fun k j q => ck_lc (by omega) (by omega) q))⟩
              · rw [efin]
                exact i2
              · rw [ecd]
                have q := b5.2.2.1
                exact ⟨(fj.1 56 t (by omega)).trans q.1, fun i o ho => ⟨(fj.1 54 _ (by omega)).trans (q.2 i o ho).1, (fj.1 55 _ (by omega)).trans (q.2 i o ho).2⟩⟩
              · rw [j3]
                simp
              · refine rwM_app ([], s) cs 0 0 (rwM_c cs 0 0 (fun i _ hi => ⟨fj.1 _ _ (by omega), fj.1 _ _ (by omega), fj.1 _ _ (by omega)⟩) hk5.2.1) ?_ ?_ ?_
                · rw [Nat.zero_add, Nat.zero_add, fj.1 58 _ (by omega)]
                  exact hk5.2.2
                · rw [Nat.zero_add, Nat.zero_add, j4.1 59 _ (by omega), v59]
                  rfl
                · rw [Nat.zero_add, Nat.zero_add, j2, hlc]
                  rfl
              · intro q hq
                rcases List.mem_append.mp hq with q1 | q1
                · exact h8 q q1
                · rw [List.mem_singleton.mp q1]
                  exact ⟨Or.inl rfl, e5⟩
              · rw [efin, List.length_append, hls, List.length_append]
                simp
                omega
              · rw [List.length_append]
                simp
                omega
              · rw [efin, ecd, hlc, List.length_append, hls]
                simp
                omega
            · -- a condition that begins with a sum
              rw [bd_s g1, bd_s g1, if_neg n10, if_neg n10]
              unfold fX3_readClause_j83 fX3_readConditioned fX12_clause_j167
              rw [if_neg n10, b2_id]
              have hat := fun a ls lc S T (h : LB n tp t a ls lc 0 S T) => x_unit hN hb ht 9 0 a ls lc S T (by omega) (by omega) h
              have r1 := x_cmp hN hb ht (by omega) b5
              have r2 := x_truthG (Q := fun _ _ => True) (kU := 16) (uU := 16) hN hb ht (by omega) hat r1
              have r3 := x_condG (kU := 16) (uU := 16) hN hb ht (by omega) hat r2
              have r4 := (r3.pre (S0 := S2) (T0 := T2) hE (n3.mono (fun k j => atC_lr)) (n4.mono (fun k j => atM_lr))).app (P := Boo 18) e4 (fun o ho => by
                obtain ⟨o1, o2, rfl, ⟨o3, o4, rfl, w1, w2⟩, w3⟩ := ho
                have k1 : Boo 17 (s ++ o3) := (w1 s e5).mono (by omega)
                have k2 := w2 _ k1
                have k3 := w3 _ (k2.mono (show 17 ≤ 18 by omega))
                rw [List.append_assoc, List.append_assoc] at k3
                rw [List.append_assoc]
                exact k3) e6 e7
              have eC : fX3_readCondition N (fX3_readUnit N 9) S5 0 1 = (b2 (b2 (fX3_readComparison N S5 (nI 0)) fun S4 r3 => if r3 = 0 then some (S4, 0) else fX3_readTruth_l27 N (fX3_readUnit N 9) N (nI 0) 0 S4) fun S4 r3 => if r3 = 0 then some (S4, 0) else fX3_readCondition_l13 N (fX3_readUnit N 9) N (nI 0) 0 S4) := by
                unfold fX3_readCondition fX3_readTruth
                rw [if_neg n10]
                rfl
              have eM : ∀ g : SS → Option SS, (bd (fX12_compare N T5) fun T3 => bd (fX12_goOnAnd N (fX12_unit N 9) T3) fun T5 => bd (fX12_goOnOr N (fX12_unit N 9) T5) g) = bd (bd (bd (fX12_compare N T5) fun T2 => fX12_goOnAnd N (fX12_unit N 9) T2) fun T2 => fX12_goOnOr N (fX12_unit N 9) T2) g := fun g => by
                rw [bd_as, bd_as]
              rw [eC, eM]
              rcases r4 with ⟨a2, c, S7', T7', f1, f2, f3, f4, f5, f6, f7⟩ | ⟨w, S7', T7', c', f1, f2, f3, f4, f5, f6, f7, f8, f9⟩
              · rw [b2_s f1, if_neg n10, bd_s f2]
                exact x_tailQ hN hb ht f3 (hk12.f f7 lr_LK) h8 f5 h9 h10 h11 (by omega) (fS11.tr f6) (fT12.tr (f7.mono (fun k j => lr_lc)))
              · rw [b2_s f1, if_pos rfl, bd_s f2]
                exact badJ w c' 1 S7' T12 T7' f3 f4 f5 f6 hk12 b12.2.2.2.1 f9 fT12 (fS11.tr f8)
          · have e1' : fX3_readSum N 9 S11 0 = some (S2, 0) := e1
            rw [b2_s e1', if_pos rfl, bd_s e2, if_neg (show ¬ gi T2 52 4 = -1 by rw [e5]; exact nI_m1 (by omega))]
            unfold fX12_clause_j166 fX12_clause_j167
            rw [if_pos rfl]
            exact badJ w c' 0 S2 T12 T2 e3 e4 e5 e6 hk12 b12.2.2.2.1 e9 fT12 (fS11.tr e8)
theorem LC.look {n N t a : Nat} {tp : Nat → Nat} {cs : List (List (Nat × Nat) × List (Nat × Nat))} {S T : SS} (hN : 250 ≤ N) (hb : tpB n tp) (h : LC n tp t a cs S T) : ∃ S2 T2, fX9_sign N S = some (S2, ch n tp (sk n tp a)) ∧ fX12_look N T = some (T2, ch n tp (sk n tp a)) ∧ FP atC S S2 ∧ FP atM T T2 ∧ LC n tp t (sk n tp a) cs S2 T2 ∧ a ≤ sk n tp a := by
  obtain ⟨h1, h2, h3, h4, h5, h6, h7, h8, h9, h10, h11⟩ := h
  obtain ⟨S2, T2, z1, z2, z3, z4, z5⟩ := h1.look hN hb
  have hsk := sk_le (tp := tp) h1.2.2.2.2.2
  exact ⟨S2, T2, z1, z2, z3, z4, ⟨z5, h2.f z3 (by simp [atC]) (by simp [atC]), h3.f z4 (fun k j q => q.1), (z4.gi (by simp [atM])).trans h4, (z4.gi (by simp [atM])).trans h5, (z4.1 57 t (by simp [atM])).trans h6, rwM_c cs 0 0 (fun i _ _ => ⟨z4.1 _ _ (by simp [atM]), z4.1 _ _ (by simp [atM]), z4.1 _ _ (by simp [atM])⟩) h7, h8, by omega, by omega, h11⟩, hsk.1⟩
theorem LC.step {n t a : Nat} {tp : Nat → Nat} {cs : List (List (Nat × Nat) × List (Nat × Nat))} {S T : SS} (h : LC n tp t a cs S T) (ha : a < n) : LC n tp t (a + 1) cs (pj S 1 2 (gi S 1 2 + 1)) (pj T 52 3 (gi T 52 3 + 1)) := by
  obtain ⟨h1, h2, h3, h4, h5, h6, h7, h8, h9, h10, h11⟩ := h
  have z3 : FP atC S (pj S 1 2 (gi S 1 2 + 1)) := FP.pj ⟨rfl, rfl⟩
  have z4 : FP atM T (pj T 52 3 (gi T 52 3 + 1)) := FP.pj ⟨rfl, rfl⟩
  exact ⟨h1.step ha, h2.f z3 (by simp [atC]) (by simp [atC]), h3.f z4 (fun k j q => q.1), (z4.gi (by simp [atM])).trans h4, (z4.gi (by simp [atM])).trans h5, (z4.1 57 t (by simp [atM])).trans h6, rwM_c cs 0 0 (fun i _ _ => ⟨z4.1 _ _ (by simp [atM]), z4.1 _ _ (by simp [atM]), z4.1 _ _ (by simp [atM])⟩) h7, h8, by omega, by omega, h11⟩
theorem x_law {n N t : Nat} {tp : Nat → Nat} (hN : 250 ≤ N) (hb : tpB n tp) (ht : t ≤ 4) {S0 T0 : SS} : ∀ (f a : Nat) (cs : List (List (Nat × Nat) × List (Nat × Nat))) (S T : SS), LC n tp t a cs S T → n - a < f → FP lrC S0 S → FP (lcM t) T0 T → ∃ r S2 T2, fX3_read_l15 N f (nI cs.length) S = some (S2, r) ∧ (bd (fX12_clause N T) fun T4 => fX12_readLaw_l9 N f T4) = some (T2, r) ∧ FP lrC S0 S2 ∧ FP (lcM t) T0 T2 ∧ (r = -1 → ∃ a' cs', LC n tp t a' cs' S2 T2 ∧ 0 < cs'.length) := by
  have hn := hb.1
  intro f
  induction f with
  | zero =>
    intro a cs S T h hf
    omega
  | succ f ih =>
    intro a cs S T h hf fS fT
    have hcl : cs.length ≤ 120 := by
      have h1 := h.1.2.2.2.2.2
      have h2 := h.2.2.2.2.2.2.2.2.2.1
      omega
    unfold fX3_read_l15
    rw [if_neg (show ¬ 240 < nI cs.length from nI_nlt (a := 240) (by omega) (by omega))]
    rcases x_clause hN hb ht h with ⟨a1, q, S2, T2, e1, e2, e3, e4, e5, e6⟩ | ⟨w, S2, T2, e1, e2, e3, e4, e5, e6, e7⟩
    · rw [b2_s e1, if_neg n10, bd_s e2]
      unfold fX12_readLaw_l9 fX12_readLaw_j43 fX12_atEnd
      rw [if_pos e3.1.2.2.2.2.1]
      obtain ⟨S8, T8, l1, l2, l3, l4, b8, hA⟩ := e3.look hN hb
      have han := e3.1.2.2.2.2.2
      have hss : sk n tp (sk n tp a1) = sk n tp a1 := sk_sk han
      rw [b2_s l1, b2_s l2]
      generalize sk n tp a1 = A at *
      have fS8 : FP lrC S0 S8 := (fS.tr e5).tr (l3.mono (fun k j => atC_lr))
      have fT8 : FP (lcM t) T0 T8 := (fT.tr e6).tr (l4.mono (fun k j q => lr_lc (atM_lr q)))
      obtain ⟨T9, m1, m2, m3⟩ := m_look hN hb b8.1.2.1 b8.1.2.2.2.1 b8.1.2.2.2.2.2
      rw [hss] at m1 m3
      have fT9 : FP (lcM t) T0 T9 := fT8.tr (m2.mono (fun k j q => lr_lc (atM_lr q)))
      have w4 : gi T9 52 4 = -1 := (m2.gi (by simp [atM])).trans b8.1.2.2.2.2.1
      by_cases c1 : ch n tp A = -1
      · rw [if_pos c1, if_neg (show ¬ ch n tp A = 59 by rw [c1]; decide), if_pos b8.1.2.2.2.2.1, b2_s m1, if_pos c1, w4, b2_s rfl]
        refine ⟨-1, S8, T9, rfl, rfl, fS8, fT9, fun _ => ⟨A, cs ++ [q], ?_, by simp⟩⟩
        obtain ⟨⟨g1, g2, g3, g4, g5, g6⟩, k2, k3, k4, k5, k6, k7, k8⟩ := b8
        exact ⟨⟨g1, g2.f m2 (by simp [atM]) (by simp [atM]), g3, m3, (m2.gi (by simp [atM])).trans g5, g6⟩, k2, k3.f m2 (fun k j q => q.1), (m2.gi (by simp [atM])).trans k4, (m2.gi (by simp [atM])).trans k5, (m2.1 57 t (by simp [atM])).trans k6, rwM_c _ 0 0 (fun i _ _ => ⟨m2.1 _ _ (by simp [atM]), m2.1 _ _ (by simp [atM]), m2.1 _ _ (by simp [atM])⟩) k7, k8⟩
      · rw [if_neg c1]
        unfold fX9_take
        obtain ⟨S9, o1, o2, o3⟩ := c_sgn hN hb b8.1.1 b8.1.2.2.1 b8.1.2.2.2.2.2
        rw [hss] at o1 o3
        rw [b2_s o1]
        have fS9 : FP lrC S0 S9 := fS8.tr (o2.mono (fun k j => atC_lr))
        by_cases c2 : ch n tp A = 59
        · have hlt : A < n := (ch_in (v := 59) (by omega) c2).1
          rw [if_pos c2, if_pos c2, lt_s9, lt_s9, b2_s rfl, if_neg n10, lt_s9, nI_1]
          have b9 : LC n tp t A (cs ++ [q]) S9 T8 := by
            obtain ⟨⟨g1, g2, g3, g4, g5, g6⟩, k2, k3⟩ := b8
            exact ⟨⟨g1.f o2 (by simp [atC]) (by simp [atC]), g2, o3, g4, g5, g6⟩, k2.f o2 (by simp [atC]) (by simp [atC]), k3⟩
          have r := ih (A + 1) (cs ++ [q]) _ _ (b9.step hlt) (by omega) (fS9.tr (FP.pj (Or.inl ⟨rfl, rfl⟩))) (fT8.tr (FP.pj (by unfold lcM lrM; omega)))
          rw [List.length_append] at r
          exact r
        · rw [if_neg c2, if_neg c2, b2_s rfl, if_pos rfl, o3, if_pos b8.1.2.2.2.2.1, b2_s m1, if_neg c1, bd_s (m_bad1 w4), m3, b2_s rfl]
          have e9 : gi (pj T9 52 4 (nI A)) 52 4 = nI A := by
            rw [gi_pj]
            rfl
          rw [e9]
          have hAn := b8.1.2.2.2.2.2
          exact ⟨nI A, S9, _, rfl, rfl, fS9, fT9.tr (FP.pj (by unfold lcM lrM; omega)), fun z => absurd z (nI_m1 (by omega))⟩
    · rw [b2_s e1, if_pos rfl, bd_s e2, e4]
      unfold fX12_readLaw_l9 fX12_readLaw_j43 fX12_atEnd
      rw [e5, if_neg (nI_m1 (by omega)), if_neg (nI_m1 (by omega)), b2_s rfl]
      exact ⟨nI w, S2, T2, rfl, rfl, fS.tr e6, fT.tr e7, fun z => absurd z (nI_m1 (by omega))⟩
def opM (t k j : Nat) : Prop := lcM t k j ∨ (k = 52 ∧ j = 14)
theorem lawR {n N t : Nat} {tp : Nat → Nat} {S T : SS} (hN : 250 ≤ N) (hb : tpB n tp) (ht : t ≤ 4) (hC : tpC n tp S) (hM : tpM n tp T) : ∃ r S2 T2, fX3_read N S = some (S2, r) ∧ fX12_readLaw N T (nI t) = some (T2, r) ∧ FP lrC S S2 ∧ FP (opM t) T T2 ∧ (r = -1 → ∃ a' cs', LC n tp t a' cs' S2 T2 ∧ 0 < cs'.length) := by
  have hn := hb.1
  have ct : (nI t).toNatClampNeg = t := nI_clamp (by omega)
  unfold fX3_read fX12_readLaw fX12_open
  simp only [lt_s9]
  rw [ck_in (show t < 5 by omega) (by omega), ck_in (show t < 5 by omega) (by omega), bd_s rfl]
  have sF : FP lrC S (pj (pj S 12 2 0) 1 2 0) := (FP.pj (Or.inr (Or.inl ⟨rfl, rfl⟩))).tr (FP.pj (Or.inl ⟨rfl, rfl⟩))
  have s1 : gi (pj (pj S 12 2 0) 1 2 0) 1 2 = nI 0 := by
    rw [gi_pj]
    rfl
  have s2 : gi (pj (pj S 12 2 0) 1 2 0) 12 2 = nI 0 := by
    unfold gi
    rw [pj_ne (by decide)]
    show gi (pj S 12 2 0) 12 2 = nI 0
    rw [gi_pj]
    rfl
  revert sF s1 s2
  generalize pj (pj S 12 2 0) 1 2 0 = S1
  intro sF s1 s2
  have tF : FP (opM t) T (pa (pa (pj (pj (pj (pj T 52 14 (nI t)) 52 3 0) 52 4 (-1)) 52 5 0) 56 (nI t) 0) 57 (nI t) 0) := (((((FP.pj (by unfold opM; omega)).tr (FP.pj (by unfold opM lcM lrM; omega))).tr (FP.pj (by unfold opM lcM lrM; omega))).tr (FP.pj (by unfold opM lcM lrM; omega))).tr (FP.pa (by unfold opM lcM lrM; omega))).tr (FP.pa (by unfold opM lcM lrM; omega))
  have t14 : gi (pa (pa (pj (pj (pj (pj T 52 14 (nI t)) 52 3 0) 52 4 (-1)) 52 5 0) 56 (nI t) 0) 57 (nI t) 0) 52 14 = nI t := by
    show gi (pj (pj (pj (pj T 52 14 (nI t)) 52 3 0) 52 4 (-1)) 52 5 0) 52 14 = nI t
    rw [gi_ne (by decide), gi_ne (by decide), gi_ne (by decide), gi_pj]
    rfl
  have t3 : gi (pa (pa (pj (pj (pj (pj T 52 14 (nI t)) 52 3 0) 52 4 (-1)) 52 5 0) 56 (nI t) 0) 57 (nI t) 0) 52 3 = nI 0 := by
    show gi (pj (pj (pj (pj T 52 14 (nI t)) 52 3 0) 52 4 (-1)) 52 5 0) 52 3 = nI 0
    rw [gi_ne (by decide), gi_ne (by decide), gi_pj]
    rfl
  have t4 : gi (pa (pa (pj (pj (pj (pj T 52 14 (nI t)) 52 3 0) 52 4 (-1)) 52 5 0) 56 (nI t) 0) 57 (nI t) 0) 52 4 = -1 := by
    show gi (pj (pj (pj (pj T 52 14 (nI t)) 52 3 0) 52 4 (-1)) 52 5 0) 52 4 = -1
    rw [gi_ne (by decide), gi_pj]
    rfl
  have t5 : gi (pa (pa (pj (pj (pj (pj T 52 14 (nI t)) 52 3 0) 52 4 (-1)) 52 5 0) 56 (nI t) 0) 57 (nI t) 0) 52 5 = nI 0 := by
    show gi (pj (pj (pj (pj T 52 14 (nI t)) 52 3 0) 52 4 (-1)) 52 5 0) 52 5 = nI 0
    rw [gi_pj]
    rfl
  have t56 : (pa (pa (pj (pj (pj (pj T 52 14 (nI t)) 52 3 0) 52 4 (-1)) 52 5 0) 56 (nI t) 0) 57 (nI t) 0).1 56 t = nI 0 := by
    rw [row_pa, if_neg (by decide), row_pa, if_pos rfl, ct, pk_us]
    rfl
  have t57 : (pa (pa (pj (pj (pj (pj T 52 14 (nI t)) 52 3 0) 52 4 (-1)) 52 5 0) 56 (nI t) 0) 57 (nI t) 0).1 57 t = nI 0 := by
    rw [row_pa, if_pos rfl, ct, pk_us]
    rfl
  revert tF t14 t3 t4 t5 t56 t57
  generalize pa (pa (pj (pj (pj (pj T 52 14 (nI t)) 52 3 0) 52 4 (-1)) 52 5 0) 56 (nI t) 0) 57 (nI t) 0 = T1
  intro tF t14 t3 t4 t5 t56 t57
  have b : LC n tp t 0 [] S1 T1 := ⟨⟨hC.f sF (by unfold lrC; omega) (by unfold lrC; intro j; omega), hM.f tF (by unfold opM lcM lrM; omega) (by unfold opM lcM lrM; intro j; omega), s1, t3, t4, Nat.zero_le _⟩, ⟨s2, (fun i x hx => by cases hx)⟩, ⟨t56, (fun i o ho => by cases ho)⟩, t14, t5, t57, trivial, (fun q hq => nomatch hq), Nat.le_refl _, Nat.le_refl _, Nat.le_refl _⟩
  obtain ⟨r, S2, T2, z1, z2, z3, z4, z5⟩ := x_law hN hb ht (S0 := S1) (T0 := T1) N 0 [] S1 T1 b (by omega) FP.rf FP.rf
  exact ⟨r, S2, T2, z1, z2, sF.tr z3, tF.tr (z4.mono (fun k j q => Or.inl q)), z5⟩
