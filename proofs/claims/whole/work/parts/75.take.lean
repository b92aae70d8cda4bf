/-! a mill is taken -/
theorem cp_ne {S : SS} {k0 k1 k : Nat} {sp dp n : Int32} (h : k ≠ k1) : (cp S k0 sp k1 dp n).1 k = S.1 k := if_neg h
theorem pj_ne {S : SS} {k j k' : Nat} {v : Int32} (h : k' ≠ k) : (pj S k j v).1 k' = S.1 k' := by
  rw [row_pj, if_neg h]
theorem FP.cp {P : Nat → Nat → Prop} {S : SS} {k0 k1 : Nat} {sp dp n : Int32} (h : ∀ j, P k1 j) : FP P S (cp S k0 sp k1 dp n) := ⟨fun k j hk => by
  rw [cp_ne (fun z => hk (by rw [z]; exact h j))], rfl⟩
theorem FP.of {P : Nat → Nat → Prop} {X : List Nat} {S S' : SS} (h : Fr X S S') (hx : ∀ k j, k ∈ X → P k j) : FP P S S' := ⟨fun k j hk => by
  rw [h.1 k (fun z => hk (hx k j z))], h.2⟩
theorem c_cpM {N : Nat} {S : SS} : ∃ S2, fX5_copyFrom N S 3 8 = some S2 ∧ FP (fun k _ => 3 ≤ k ∧ k ≤ 6) S S2 ∧ (∀ i, i < 5 → gi S2 3 i = gi S 8 i) ∧ ∀ d, d < 7 → S2.1 4 d = S.1 9 d ∧ S2.1 5 d = S.1 10 d ∧ S2.1 6 d = S.1 11 d := by
  unfold fX5_copyFrom
  simp only [lt_s9]
  refine ⟨_, rfl, ?_, fun i hi => ?_, fun d hd => ⟨?_, ?_, ?_⟩⟩
  · exact (((((((FP.pj ⟨by omega, by omega⟩).tr (FP.pj ⟨by omega, by omega⟩)).tr (FP.pj ⟨by omega, by omega⟩)).tr (FP.pj ⟨by omega, by omega⟩)).tr (FP.pj ⟨by omega, by omega⟩)).tr (FP.cp (fun _ => ⟨by omega, by omega⟩))).tr (FP.cp (fun _ => ⟨by omega, by omega⟩))).tr (FP.cp (fun _ => ⟨by omega, by omega⟩))
  · unfold gi
    rw [cp_ne (by decide), cp_ne (by decide), cp_ne (by decide)]
    rcases (by omega : i = 0 ∨ i = 1 ∨ i = 2 ∨ i = 3 ∨ i = 4) with rfl | rfl | rfl | rfl | rfl <;> simp [pj, pr, upd]
  · rw [cp_ne (by decide), cp_ne (by decide), cp_at hd, pj_ne (by decide), pj_ne (by decide), pj_ne (by decide), pj_ne (by decide), pj_ne (by decide)]
  · rw [cp_ne (by decide), cp_at hd, cp_ne (by decide), pj_ne (by decide), pj_ne (by decide), pj_ne (by decide), pj_ne (by decide), pj_ne (by decide)]
  · rw [cp_at hd, cp_ne (by decide), cp_ne (by decide), pj_ne (by decide), pj_ne (by decide), pj_ne (by decide), pj_ne (by decide), pj_ne (by decide)]
theorem c_begin {N : Nat} {S : SS} (hN : 9 ≤ N) : ∃ S2, fX8_begin N S 18 3 = some S2 ∧ FP (fun k _ => 18 ≤ k ∧ k ≤ 22) S S2 ∧ gi S2 18 4 = gi S 3 0 ∧ gi S2 18 5 = 0 ∧ gi S2 18 6 = 0 ∧ gi S2 18 7 = 0 ∧ gi S2 18 8 = gi S 3 4 ∧ gi S2 18 9 = 0 ∧ ∀ d, d < 7 → S2.1 19 d = S.1 4 d ∧ S2.1 20 d = S.1 6 d ∧ S2.1 21 d = -1 ∧ S2.1 22 d = -1 := by
  unfold fX8_begin
  simp only [lt_s9]
  obtain ⟨S5, z1, z2, z3⟩ := fills (N := N) (q := 21) (L := 7) (v := -1) (S := cp (cp (pj S 18 4 (gi S 3 0)) 4 0 19 0 7) 6 0 20 0 7) rfl (by omega) (by omega)
  obtain ⟨S7, y1, y2, y3⟩ := fills (N := N) (q := 22) (L := 7) (v := -1) (S := S5) (by rw [z2.2]; rfl) (by omega) (by omega)
  rw [bd_s z1, bd_s y1]
  have f7 : FP (fun k _ => 18 ≤ k ∧ k ≤ 22) S S7 := ((((FP.pj ⟨by omega, by omega⟩).tr (FP.cp (fun _ => ⟨by omega, by omega⟩))).tr (FP.cp (fun _ => ⟨by omega, by omega⟩))).tr (FP.of z2 (fun k j q => by simp at q; omega))).tr (FP.of y2 (fun k j q => by simp at q; omega))
  have g4 : gi S7 18 4 = gi S 3 0 := by
    unfold gi
    rw [y2.row (by decide), z2.row (by decide), cp_ne (by decide), cp_ne (by decide)]
    simp [pj, pr, upd, gi]
  have g34 : gi S7 3 4 = gi S 3 4 := f7.gi (by omega)
  have r19 : ∀ d, d < 7 → S7.1 19 d = S.1 4 d := fun d hd => by
    rw [y2.row (by decide), z2.row (by decide), cp_ne (by decide), cp_at hd, pj_ne (by decide)]
  have r20 : ∀ d, d < 7 → S7.1 20 d = S.1 6 d := fun d hd => by
    rw [y2.row (by decide), z2.row (by decide), cp_at hd, cp_ne (by decide), pj_ne (by decide)]
  have r21 : ∀ d, d < 7 → S7.1 21 d = -1 := fun d hd => by
    rw [y2.row (by decide), z3, if_pos hd]
  have r22 : ∀ d, d < 7 → S7.1 22 d = -1 := fun d hd => by
    rw [y3, if_pos hd]
  refine ⟨_, rfl, ((((f7.tr (FP.pj ⟨by omega, by omega⟩)).tr (FP.pj ⟨by omega, by omega⟩)).tr (FP.pj ⟨by omega, by omega⟩)).tr (FP.pj ⟨by omega, by omega⟩)).tr (FP.pj ⟨by omega, by omega⟩), ?_, ?_, ?_, ?_, ?_, ?_, fun d hd => ⟨?_, ?_, ?_, ?_⟩⟩
  · rw [gi_ne (by decide), gi_ne (by decide), gi_ne (by decide), gi_ne (by decide), gi_ne (by decide), g4]
  · rw [gi_ne (by decide), gi_ne (by decide), gi_ne (by decide), gi_ne (by decide), gi_pj]
    rfl
  · rw [gi_ne (by decide), gi_ne (by decide), gi_ne (by decide), gi_pj]
    rfl
  · rw [gi_ne (by decide), gi_ne (by decide), gi_pj]
    rfl
  · rw [gi_ne (by decide), gi_pj, if_pos rfl, if_pos rfl]
    unfold gi
    rw [pj_ne (by decide), pj_ne (by decide), pj_ne (by decide)]
    exact g34
  · rw [gi_pj]
    rfl
  · rw [pj_ne (by decide), pj_ne (by decide), pj_ne (by decide), pj_ne (by decide), pj_ne (by decide), r19 d hd]
  · rw [pj_ne (by decide), pj_ne (by decide), pj_ne (by decide), pj_ne (by decide), pj_ne (by decide), r20 d hd]
  · rw [pj_ne (by decide), pj_ne (by decide), pj_ne (by decide), pj_ne (by decide), pj_ne (by decide), r21 d hd]
  · rw [pj_ne (by decide), pj_ne (by decide), pj_ne (by decide), pj_ne (by decide), pj_ne (by decide), r22 d hd]
/-! the reference's rows -/
theorem m_t10 {N : Nat} {T0 : SS} : ∀ (j i f : Nat) (T : SS), i + j = 4 → j < f → FP (fun k _ => k = 65) T0 T → (∀ k, k < i → T.1 65 k = T0.1 63 k) → ∃ T2, fX12_takeMill_l10 N f (nI i) T = fX12_takeMill_l35 N N 0 T2 ∧ FP (fun k _ => k = 65) T0 T2 ∧ ∀ k, k < 4 → T2.1 65 k = T0.1 63 k := by
  intro j
  induction j with
  | zero =>
    intro i f T hi hf fT h
    obtain ⟨f, rfl⟩ : ∃ q, f = q + 1 := ⟨f - 1, by omega⟩
    have : i = 4 := by omega
    subst this
    unfold fX12_takeMill_l10
    rw [if_pos (by decide)]
    exact ⟨T, rfl, fT, h⟩
  | succ j ih =>
    intro i f T hi hf fT h
    obtain ⟨f, rfl⟩ : ∃ q, f = q + 1 := ⟨f - 1, by omega⟩
    unfold fX12_takeMill_l10
    rw [if_neg (show ¬ (4 : Int32) ≤ nI i from nI_ge (b := 4) (by omega) (by omega)), ck_in (by omega) (by omega), ck_in (by omega) (by omega), lt_s9, lt_s9, nI_1, ga_nI (by omega)]
    refine ih (i + 1) f _ (by omega) (by omega) (fT.tr (FP.pa rfl)) (fun k hk => ?_)
    rw [row_pa, if_pos rfl, nI_clamp (by omega), fT.row (k := 63) (by intro j; omega)]
    by_cases q : k = i
    · rw [q, pk_us]
    · rw [pk_un q]
      exact h k (by omega)
theorem m_t35 {N : Nat} {T0 : SS} : ∀ (j i f : Nat) (T : SS), i + j = 21 → j < f → FP (fun k _ => k = 66) T0 T → (∀ k, k < i → T.1 66 k = T0.1 64 k) → ∃ T2, fX12_takeMill_l35 N f (nI i) T = fX12_takeMill_l61 N N 0 T2 ∧ FP (fun k _ => k = 66) T0 T2 ∧ ∀ k, k < 21 → T2.1 66 k = T0.1 64 k := by
  intro j
  induction j with
  | zero =>
    intro i f T hi hf fT h
    obtain ⟨f, rfl⟩ : ∃ q, f = q + 1 := ⟨f - 1, by omega⟩
    have : i = 21 := by omega
    subst this
    unfold fX12_takeMill_l35
    rw [if_pos (by decide)]
    exact ⟨T, rfl, fT, h⟩
  | succ j ih =>
    intro i f T hi hf fT h
    obtain ⟨f, rfl⟩ : ∃ q, f = q + 1 := ⟨f - 1, by omega⟩
    unfold fX12_takeMill_l35
    rw [if_neg (show ¬ (21 : Int32) ≤ nI i from nI_ge (b := 21) (by omega) (by omega)), ck_in (by omega) (by omega), ck_in (by omega) (by omega), lt_s9, lt_s9, nI_1, ga_nI (by omega)]
    refine ih (i + 1) f _ (by omega) (by omega) (fT.tr (FP.pa rfl)) (fun k hk => ?_)
    rw [row_pa, if_pos rfl, nI_clamp (by omega), fT.row (k := 64) (by intro j; omega)]
    by_cases q : k = i
    · rw [q, pk_us]
    · rw [pk_un q]
      exact h k (by omega)
theorem m_t61 {N : Nat} {T0 : SS} : ∀ (j i f : Nat) (T : SS), i + j = 214 → j < f → FP (fun k _ => k = 67) T0 T → (∀ k, k < i → T.1 67 k = 0) → ∃ T2, fX12_takeMill_l61 N f (nI i) T = fX12_takeMill_l83 N N 0 T2 ∧ FP (fun k _ => k = 67) T0 T2 ∧ ∀ k, k < 214 → T2.1 67 k = 0 := by
  intro j
  induction j with
  | zero =>
    intro i f T hi hf fT h
    obtain ⟨f, rfl⟩ : ∃ q, f = q + 1 := ⟨f - 1, by omega⟩
    have : i = 214 := by omega
    subst this
    unfold fX12_takeMill_l61
    rw [if_pos (by decide)]
    exact ⟨T, rfl, fT, h⟩
  | succ j ih =>
    intro i f T hi hf fT h
    obtain ⟨f, rfl⟩ : ∃ q, f = q + 1 := ⟨f - 1, by omega⟩
    unfold fX12_takeMill_l61
    rw [if_neg (show ¬ (214 : Int32) ≤ nI i from nI_ge (b := 214) (by omega) (by omega)), ck_in (by omega) (by omega), lt_s9, lt_s9, nI_1]
    refine ih (i + 1) f _ (by omega) (by omega) (fT.tr (FP.pa rfl)) (fun k hk => ?_)
    rw [row_pa, if_pos rfl, nI_clamp (by omega)]
    by_cases q : k = i
    · rw [q, pk_us]
    · rw [pk_un q]
      exact h k (by omega)
theorem m_t83 {N e : Nat} {T0 : SS} (he : e ≤ 7) (h22 : gi T0 52 22 = nI e) : ∀ (j i f : Nat) (T : SS), i + j = e → j < f → FP (fun k q => k = 67 ∧ q < 14) T0 T → (∀ d, d < i → T.1 67 d = T0.1 66 (3 * d) ∧ T.1 67 (7 + d) = T0.1 66 (3 * d + 2)) → ∃ T2, fX12_takeMill_l83 N f (nI i) T = fX12_takeMill_l128 N N 0 T2 ∧ FP (fun k q => k = 67 ∧ q < 14) T0 T2 ∧ ∀ d, d < e → T2.1 67 d = T0.1 66 (3 * d) ∧ T2.1 67 (7 + d) = T0.1 66 (3 * d + 2) := by
  intro j
  induction j with
  | zero =>
    intro i f T hi hf fT h
    obtain ⟨f, rfl⟩ : ∃ q, f = q + 1 := ⟨f - 1, by omega⟩
    unfold fX12_takeMill_l83
    rw [(fT.gi (by omega)).trans h22, if_pos (nI_le (by omega) (by omega))]
    exact ⟨T, rfl, fT, fun d hd => h d (by omega)⟩
  | succ j ih =>
    intro i f T hi hf fT h
    obtain ⟨f, rfl⟩ : ∃ q, f = q + 1 := ⟨f - 1, by omega⟩
    have hi' : i < e := by omega
    have e0 : fX12_of N T (nI i) 0 = some (T0.1 66 (3 * i)) := by
      have := m_of (N := N) (T := T) (d := i) (by omega) 0 (by omega)
      rw [fT.row (k := 66) (by intro j; omega)] at this
      exact this
    have e2 : ∀ v, fX12_of N (pa T 67 (nI i) v) (nI i) 2 = some (T0.1 66 (3 * i + 2)) := fun v => by
      have := m_of (N := N) (T := pa T 67 (nI i) v) (d := i) (by omega) 2 (by omega)
      rw [row_pa, if_neg (by decide), fT.row (k := 66) (by intro j; omega)] at this
      exact this
    unfold fX12_takeMill_l83
    rw [(fT.gi (by omega)).trans h22, if_neg (nI_ge hi' (by omega)), bd_s e0, a0, ck_in (by omega) (by omega), lt_s9, bd_s (e2 _), a7, ck_in (by omega) (by omega), lt_s9, lt_s9, nI_1]
    refine ih (i + 1) f _ (by omega) (by omega) ((fT.tr (FP.pa ⟨rfl, by rw [nI_clamp (by omega)]; omega⟩)).tr (FP.pa ⟨rfl, by rw [nI_clamp (by omega)]; omega⟩)) (fun d hd => ?_)
    rw [row_pa, if_pos rfl, nI_clamp (by omega), row_pa, if_pos rfl, nI_clamp (by omega)]
    by_cases q : d = i
    · rw [q, pk_un (by omega), pk_us, pk_us]
      exact ⟨rfl, rfl⟩
    · rw [pk_un (by omega), pk_un q, pk_un (by omega), pk_un (by omega)]
      exact h d (by omega)
theorem m_t128 {N : Nat} {T0 : SS} : ∀ (j i f : Nat) (T : SS), i + j = 7 → j < f → FP (fun k q => k = 67 ∧ 14 ≤ q ∧ q < 28) T0 T → (∀ d, d < i → T.1 67 (14 + d) = -1 ∧ T.1 67 (21 + d) = -1) → ∃ T2, fX12_takeMill_l128 N f (nI i) T = some (pj (pj (pj (pa T2 67 31 (ga T2 65 3)) 52 42 0) 52 28 0) 52 44 0, gi T2 52 22) ∧ FP (fun k q => k = 67 ∧ 14 ≤ q ∧ q < 28) T0 T2 ∧ ∀ d, d < 7 → T2.1 67 (14 + d) = -1 ∧ T2.1 67 (21 + d) = -1 := by
  intro j
  induction j with
  | zero =>
    intro i f T hi hf fT h
    obtain ⟨f, rfl⟩ : ∃ q, f = q + 1 := ⟨f - 1, by omega⟩
    have : i = 7 := by omega
    subst this
    unfold fX12_takeMill_l128
    rw [if_pos (by decide)]
    simp only [lt_s9]
    refine ⟨T, ?_, fT, h⟩
    rw [gi_ne (by decide), gi_ne (by decide), gi_ne (by decide)]
    rfl
  | succ j ih =>
    intro i f T hi hf fT h
    obtain ⟨f, rfl⟩ : ∃ q, f = q + 1 := ⟨f - 1, by omega⟩
    unfold fX12_takeMill_l128
    rw [if_neg (show ¬ (7 : Int32) ≤ nI i from nI_ge (b := 7) (by omega) (by omega)), a14, a21, ck_in (by omega) (by omega), lt_s9, ck_in (by omega) (by omega), lt_s9, lt_s9, nI_1]
    refine ih (i + 1) f _ (by omega) (by omega) ((fT.tr (FP.pa ⟨rfl, by rw [nI_clamp (by omega)]; omega⟩)).tr (FP.pa ⟨rfl, by rw [nI_clamp (by omega)]; omega⟩)) (fun d hd => ?_)
    rw [row_pa, if_pos rfl, nI_clamp (by omega), row_pa, if_pos rfl, nI_clamp (by omega)]
    by_cases q : d = i
    · rw [q, pk_un (by omega), pk_us, pk_us]
      exact ⟨rfl, rfl⟩
    · rw [pk_un (by omega), pk_un (by omega), pk_un (by omega), pk_un (by omega)]
      exact h d (by omega)
