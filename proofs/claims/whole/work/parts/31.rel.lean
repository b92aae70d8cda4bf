/-! THE RELATION of the two systems -/
/-- what ACTS change, in one row: the class's -/
def nowC (S : SS) : Nat → Int32 := fun j => if j < 7 then S.1 19 j else if j < 14 then S.1 20 (j - 7) else if j < 21 then S.1 21 (j - 14) else if j < 28 then S.1 22 (j - 21) else S.1 18 (j - 23)
/-- places of a row that count, of E ends -/
def relv (E j : Nat) : Prop := (j < 28 → j % 7 < E) ∧ j < 33
/-- tales: who is behind whom, as lists -/
def chn (bh ah : Nat → Int32) : List Nat → Prop
  | [] => False
  | [d] => bh d = -1
  | d :: e :: r => bh d = nI e ∧ ah e = nI d ∧ chn bh ah (e :: r)
def tls (E : Nat) (bh ah : Nat → Int32) (L : List (List Nat)) : Prop :=
  L.flatten.Nodup ∧ (∀ d, d ∈ L.flatten ↔ d < E) ∧ ∀ t, t ∈ L → chn bh ah t ∧ ∀ d, t.head? = some d → ah d = -1
def bt (x : Int32) (d : Nat) : Bool := x.toBitVec.getLsbD d
/-- a row is well: bounds, tales, who is sold -/
def wfL (E : Nat) (m : Nat → Int32) : Prop :=
  (∀ d, d < E → (∃ v, v ≤ 20 ∧ m d = nI v) ∧ ∃ v, 1 ≤ v ∧ v ≤ 20 ∧ m (7 + d) = nI v) ∧
  (∃ L, tls E (fun d => m (14 + d)) (fun d => m (21 + d)) L ∧ ∀ t, t ∈ L → ∀ d e, d ∈ t → e ∈ t → bt (m 28) d = bt (m 28) e) ∧
  (∃ v, v < 2 ^ E ∧ m 28 = nI v) ∧ (∃ v, v < 4294967296 ∧ m 29 = nI v) ∧ (∃ v, v < 4294967296 ∧ m 30 = nI v) ∧ (∃ v, v ≤ 9999 ∧ m 31 = nI v) ∧ ∃ v, v ≤ 999 ∧ m 32 = nI v
def dayN (m : Nat → Int32) : Nat := (m 32).toNatClampNeg
/-- the LOG: a ring of 100 DAYS, and the reference's row -/
def logE (ring m : Nat → Int32) : Prop :=
  m 33 = nI (min 60 (dayN m)) ∧ ∀ i w, i < min 60 (dayN m) → w < 3 → ring ((dayN m - 1 - i) % 100 * 3 + w) = m (34 + 3 * (min 60 (dayN m) - 1 - i) + w)
def stE (E : Nat) (ring c m : Nat → Int32) : Prop := (∀ j, relv E j → c j = m j) ∧ wfL E m ∧ logE ring m
def kC (S : SS) (nx j : Nat) : Nat → Int32 := fun z => S.1 24 ((nx + 39 - j) % 40 * 33 + z)
def kM (T : SS) (a j : Nat) : Nat → Int32 := fun z => T.1 69 (214 * (a - 1 - j) + z)
def rTape (S T : SS) : Prop := ∃ n, n ≤ 240 ∧ gi S 1 1 = nI n ∧ gi T 52 2 = nI n ∧ ∀ j, j < n → S.1 2 j = T.1 53 j ∧ ∃ v, 0 < v ∧ v < 256 ∧ S.1 2 j = nI v
def rMill (E : Nat) (S T : SS) : Prop :=
  (gi S 3 0 = nI E ∧ gi T 52 22 = nI E ∧ gi S 18 4 = nI E) ∧ (E = 0 ∨ 2 ≤ E) ∧ E ≤ 7 ∧
  (0 < E → (∃ v, v ≤ 9 ∧ gi S 3 1 = nI v ∧ T.1 65 0 = nI v) ∧ (∃ v, v ≤ 9 ∧ gi S 3 2 = nI v ∧ T.1 65 1 = nI v) ∧ (∃ v, 1 ≤ v ∧ v ≤ 9 ∧ gi S 3 3 = nI v ∧ T.1 65 2 = nI v) ∧
    ∀ d, d < E → (∃ v, v ≤ 20 ∧ S.1 4 d = nI v ∧ T.1 66 (3 * d) = nI v) ∧ (∃ v, 1 ≤ v ∧ v ≤ 6 ∧ S.1 5 d = nI v ∧ T.1 66 (3 * d + 1) = nI v) ∧ ∃ v, 1 ≤ v ∧ v ≤ 20 ∧ S.1 6 d = nI v ∧ T.1 66 (3 * d + 2) = nI v)
/-- now, the acts, the image -/
def rAct (E : Nat) (S T : SS) : Prop :=
  stE E (S.1 25) (nowC S) (T.1 67) ∧
  ∃ nx a, nx < 40 ∧ a ≤ 40 ∧ gi S 23 5 = nI nx ∧ gi S 23 6 = nI a ∧ gi T 52 28 = nI a ∧
    (∀ j, j < a → stE E (S.1 25) (kC S nx j) (kM T a j)) ∧
    (0 < a → dayN (kM T a 0) ≤ dayN (T.1 67) ∧ dayN (T.1 67) ≤ dayN (kM T a 0) + 1) ∧
    ∀ j, j + 1 < a → dayN (kM T a (j + 1)) ≤ dayN (kM T a j) ∧ dayN (kM T a j) ≤ dayN (kM T a (j + 1)) + 1
def rImg (E : Nat) (S T : SS) : Prop := (gi S 23 4 = 0 ∨ gi S 23 4 = 1) ∧ gi T 52 44 = gi S 23 4 ∧ (gi S 23 4 = 1 → 0 < E ∧ stE E (S.1 27) (S.1 26) (T.1 77))
def rSeen (E : Nat) (S T : SS) : Prop := ∃ n, n ≤ 10 ∧ gi S 40 5 = nI n ∧ gi T 52 42 = nI n ∧ ∀ j, j < n → S.1 41 j = T.1 74 j ∧ S.1 42 j = T.1 75 j ∧ S.1 43 j = T.1 76 j ∧ (S.1 43 j = 0 ∨ S.1 43 j = 1) ∧ ∃ x y, x < E ∧ y < E ∧ x ≠ y ∧ S.1 41 j = nI x ∧ S.1 42 j = nI y
def rMisc (S T : SS) : Prop := (∀ j, j < 5 → S.1 47 j = T.1 68 j) ∧ gi S 0 12 = gi T 52 26
/-- a law of both: whatever the letters, they say the same -/
def lawE (N i : Nat) (S T : SS) : Prop := ∀ S1 T1 : SS, S1.1 (48 + i) = S.1 (48 + i) → S1.2.2 (48 + i) = S.2.2 (48 + i) →
  (∀ j, j < 520 → T1.1 54 (520 * i + j) = T.1 54 (520 * i + j) ∧ T1.1 55 (520 * i + j) = T.1 55 (520 * i + j)) → T1.1 57 i = T.1 57 i →
  (∀ j, j < 140 → T1.1 58 (140 * i + j) = T.1 58 (140 * i + j) ∧ T1.1 59 (140 * i + j) = T.1 59 (140 * i + j) ∧ T1.1 60 (140 * i + j) = T.1 60 (140 * i + j)) →
  (∀ j, j < 6 → S1.1 16 j = T1.1 61 j) →
  ∃ (S2 T2 : SS) (v : Int32), fX2_worth N S1 (48 + i) = some (S2, v) ∧ fX12_worthOf N T1 (nI i) = some (T2, v) ∧ Fr [17] S1 S2 ∧ Fr [62] T1 T2
def rLaw (N : Nat) (S T : SS) : Prop := ∃ n, n ≤ 4 ∧ gi S 14 4 = nI n ∧ gi T 52 13 = nI n ∧ gi S 14 5 = gi T 52 25 ∧ (gi S 14 5 = -1 ∨ ∃ h, h < n ∧ gi S 14 5 = nI h) ∧ ∀ i, i < n → lawE N i S T
def Rel (N : Nat) (S T : SS) : Prop := ∃ E, rTape S T ∧ rMill E S T ∧ rLaw N S T ∧ rAct E S T ∧ rImg E S T ∧ rSeen E S T ∧ rMisc S T
/-! which slots each part reads -/
def tapeC (k j : Nat) : Prop := (k = 1 ∧ j = 1) ∨ k = 2
def tapeM (k j : Nat) : Prop := (k = 52 ∧ j = 2) ∨ k = 53
def millC (k j : Nat) : Prop := k = 3 ∨ k = 4 ∨ k = 5 ∨ k = 6 ∨ (k = 18 ∧ j = 4)
def millM (k j : Nat) : Prop := (k = 52 ∧ j = 22) ∨ k = 65 ∨ k = 66
def lawC (k j : Nat) : Prop := (k = 14 ∧ (j = 4 ∨ j = 5)) ∨ (48 ≤ k ∧ k < 52)
def lawM (k j : Nat) : Prop := (k = 52 ∧ (j = 13 ∨ j = 25)) ∨ (k = 54 ∧ j < 2080) ∨ (k = 55 ∧ j < 2080) ∨ (k = 57 ∧ j < 4) ∨ (k = 58 ∧ j < 560) ∨ (k = 59 ∧ j < 560) ∨ (k = 60 ∧ j < 560)
def actC (k j : Nat) : Prop := (k = 18 ∧ j ≠ 4) ∨ k = 19 ∨ k = 20 ∨ k = 21 ∨ k = 22 ∨ (k = 23 ∧ (j = 5 ∨ j = 6)) ∨ k = 24 ∨ k = 25
def actM (k j : Nat) : Prop := k = 67 ∨ k = 69 ∨ (k = 52 ∧ j = 28)
def imgC (k j : Nat) : Prop := (k = 23 ∧ j = 4) ∨ k = 26 ∨ k = 27
def imgM (k j : Nat) : Prop := (k = 52 ∧ j = 44) ∨ k = 77
def seenC (k j : Nat) : Prop := (k = 40 ∧ j = 5) ∨ k = 41 ∨ k = 42 ∨ k = 43
def seenM (k j : Nat) : Prop := (k = 52 ∧ j = 42) ∨ k = 74 ∨ k = 75 ∨ k = 76
def miscC (k j : Nat) : Prop := k = 47 ∨ (k = 0 ∧ j = 12)
def miscM (k j : Nat) : Prop := k = 68 ∨ (k = 52 ∧ j = 26)
/-- S' reads like S where P says -/
def Sm (P : Nat → Nat → Prop) (S S' : SS) : Prop := ∀ k j, P k j → S'.1 k j = S.1 k j
theorem Sm.rf {P : Nat → Nat → Prop} {S : SS} : Sm P S S := fun _ _ _ => rfl
theorem Sm.tr {P : Nat → Nat → Prop} {S S' S'' : SS} (h : Sm P S S') (h' : Sm P S' S'') : Sm P S S'' := fun k j p => (h' k j p).trans (h k j p)
theorem Sm.row {P : Nat → Nat → Prop} {S S' : SS} (h : Sm P S S') {k : Nat} (hk : ∀ j, P k j) : S'.1 k = S.1 k := funext fun j => h k j (hk j)
theorem Sm.fr {P : Nat → Nat → Prop} {X : List Nat} {S S' : SS} (h : Fr X S S') (hx : ∀ k j, P k j → k ∉ X) : Sm P S S' := fun k j p => congrFun (h.1 k (hx k j p)) j
theorem sm_pj {P : Nat → Nat → Prop} {S : SS} {k j : Nat} {v : Int32} (h : ¬ P k j) : Sm P S (pj S k j v) := fun a b p => by
  have e := gi_pj (S := S) (k := k) (k' := a) (j := j) (j' := b) (v := v)
  unfold gi at e
  rw [e]
  by_cases h1 : a = k
  · rw [if_pos h1]
    by_cases h2 : b = j
    · subst h1 h2
      exact absurd p h
    · rw [if_neg h2]
  · rw [if_neg h1]
theorem sm_pa {P : Nat → Nat → Prop} {S : SS} {k : Nat} {i v : Int32} (h : ∀ j, ¬ P k j) : Sm P S (pa S k i v) := sm_pj (h _)
theorem sm_pr {P : Nat → Nat → Prop} {S : SS} {k : Nat} {f : Nat → Int32} (h : ∀ j, ¬ P k j) : Sm P S (pr S k f) := fun a b p => by
  have hk : a ≠ k := fun e => h b (by rw [← e]; exact p)
  rw [row_pr, if_neg hk]
theorem sm_pl {P : Nat → Nat → Prop} {S : SS} {v : Int64} : Sm P S (pl S v) := fun _ _ _ => rfl
theorem rTape_c {S T S' T' : SS} (hS : Sm tapeC S S') (hT : Sm tapeM T T') (h : rTape S T) : rTape S' T' := by
  obtain ⟨n, h1, h2, h3, h4⟩ := h
  refine ⟨n, h1, (hS 1 1 (Or.inl ⟨rfl, rfl⟩)).trans h2, (hT 52 2 (Or.inl ⟨rfl, rfl⟩)).trans h3, fun j hj => ?_⟩
  rw [hS 2 j (Or.inr rfl), hT 53 j (Or.inr rfl)]
  exact h4 j hj
theorem rMill_c {E : Nat} {S T S' T' : SS} (hS : Sm millC S S') (hT : Sm millM T T') (h : rMill E S T) : rMill E S' T' := by
  have e3 : S'.1 3 = S.1 3 := hS.row fun j => Or.inl rfl
  have e4 : S'.1 4 = S.1 4 := hS.row fun j => Or.inr (Or.inl rfl)
  have e5 : S'.1 5 = S.1 5 := hS.row fun j => Or.inr (Or.inr (Or.inl rfl))
  have e6 : S'.1 6 = S.1 6 := hS.row fun j => Or.inr (Or.inr (Or.inr (Or.inl rfl)))
  have e18 : S'.1 18 4 = S.1 18 4 := hS 18 4 (Or.inr (Or.inr (Or.inr (Or.inr ⟨rfl, rfl⟩))))
  have t22 : T'.1 52 22 = T.1 52 22 := hT 52 22 (Or.inl ⟨rfl, rfl⟩)
  have t65 : T'.1 65 = T.1 65 := hT.row fun j => Or.inr (Or.inl rfl)
  have t66 : T'.1 66 = T.1 66 := hT.row fun j => Or.inr (Or.inr rfl)
  unfold rMill gi at *
  rw [e3, e4, e5, e6, e18, t22, t65, t66]
  exact h
theorem rAct_c {E : Nat} {S T S' T' : SS} (hS : Sm actC S S') (hT : Sm actM T T') (h : rAct E S T) : rAct E S' T' := by
  have e19 : S'.1 19 = S.1 19 := hS.row fun j => Or.inr (Or.inl rfl)
  have e20 : S'.1 20 = S.1 20 := hS.row fun j => Or.inr (Or.inr (Or.inl rfl))
  have e21 : S'.1 21 = S.1 21 := hS.row fun j => Or.inr (Or.inr (Or.inr (Or.inl rfl)))
  have e22 : S'.1 22 = S.1 22 := hS.row fun j => Or.inr (Or.inr (Or.inr (Or.inr (Or.inl rfl))))
  have e24 : S'.1 24 = S.1 24 := hS.row fun j => by simp [actC]
  have e25 : S'.1 25 = S.1 25 := hS.row fun j => by simp [actC]
  have e5 : S'.1 23 5 = S.1 23 5 := hS 23 5 (by simp [actC])
  have e6 : S'.1 23 6 = S.1 23 6 := hS 23 6 (by simp [actC])
  have en : nowC S' = nowC S := by
    funext j
    unfold nowC
    rw [e19, e20, e21, e22]
    by_cases h1 : j < 7
    · simp [h1]
    · by_cases h2 : j < 14
      · simp [h1, h2]
      · by_cases h3 : j < 21
        · simp [h1, h2, h3]
        · by_cases h4 : j < 28
          · simp [h1, h2, h3, h4]
          · simp only [h1, h2, h3, h4, if_false]
            exact hS 18 (j - 23) (Or.inl ⟨rfl, by omega⟩)
  have t67 : T'.1 67 = T.1 67 := hT.row fun j => Or.inl rfl
  have t69 : T'.1 69 = T.1 69 := hT.row fun j => Or.inr (Or.inl rfl)
  have t28 : T'.1 52 28 = T.1 52 28 := hT 52 28 (Or.inr (Or.inr ⟨rfl, rfl⟩))
  unfold rAct kC kM gi at *
  rw [en, e24, e25, e5, e6, t67, t69, t28]
  exact h
theorem rImg_c {E : Nat} {S T S' T' : SS} (hS : Sm imgC S S') (hT : Sm imgM T T') (h : rImg E S T) : rImg E S' T' := by
  have e26 : S'.1 26 = S.1 26 := hS.row fun j => Or.inr (Or.inl rfl)
  have e27 : S'.1 27 = S.1 27 := hS.row fun j => Or.inr (Or.inr rfl)
  have e4 : S'.1 23 4 = S.1 23 4 := hS 23 4 (Or.inl ⟨rfl, rfl⟩)
  have t77 : T'.1 77 = T.1 77 := hT.row fun j => Or.inr rfl
  have t44 : T'.1 52 44 = T.1 52 44 := hT 52 44 (Or.inl ⟨rfl, rfl⟩)
  unfold rImg gi at *
  rw [e26, e27, e4, t77, t44]
  exact h
theorem rSeen_c {E : Nat} {S T S' T' : SS} (hS : Sm seenC S S') (hT : Sm seenM T T') (h : rSeen E S T) : rSeen E S' T' := by
  have e41 : S'.1 41 = S.1 41 := hS.row fun j => Or.inr (Or.inl rfl)
  have e42 : S'.1 42 = S.1 42 := hS.row fun j => Or.inr (Or.inr (Or.inl rfl))
  have e43 : S'.1 43 = S.1 43 := hS.row fun j => Or.inr (Or.inr (Or.inr rfl))
  have e5 : S'.1 40 5 = S.1 40 5 := hS 40 5 (Or.inl ⟨rfl, rfl⟩)
  have t74 : T'.1 74 = T.1 74 := hT.row fun j => Or.inr (Or.inl rfl)
  have t75 : T'.1 75 = T.1 75 := hT.row fun j => Or.inr (Or.inr (Or.inl rfl))
  have t76 : T'.1 76 = T.1 76 := hT.row fun j => Or.inr (Or.inr (Or.inr rfl))
  have t42 : T'.1 52 42 = T.1 52 42 := hT 52 42 (Or.inl ⟨rfl, rfl⟩)
  unfold rSeen gi at *
  rw [e41, e42, e43, e5, t74, t75, t76, t42]
  exact h
theorem rMisc_c {S T S' T' : SS} (hS : Sm miscC S S') (hT : Sm miscM T T') (h : rMisc S T) : rMisc S' T' := by
  have e47 : S'.1 47 = S.1 47 := hS.row fun j => Or.inl rfl
  have e12 : S'.1 0 12 = S.1 0 12 := hS 0 12 (Or.inr ⟨rfl, rfl⟩)
  have t68 : T'.1 68 = T.1 68 := hT.row fun j => Or.inl rfl
  have t26 : T'.1 52 26 = T.1 52 26 := hT 52 26 (Or.inr ⟨rfl, rfl⟩)
  unfold rMisc gi at *
  rw [e47, e12, t68, t26]
  exact h
theorem lawE_c {N i : Nat} {S T S' T' : SS} (hi : i < 4) (hS : Sm lawC S S') (hl : S'.2.2 (48 + i) = S.2.2 (48 + i)) (hT : Sm lawM T T') (h : lawE N i S T) : lawE N i S' T' := by
  intro S1 T1 h1 h2 h3 h4 h5 h6
  refine h S1 T1 (h1.trans (hS.row fun j => Or.inr (by omega))) (h2.trans hl) (fun j hj => ?_) (h4.trans (hT 57 i (by simp [lawM]; omega))) (fun j hj => ?_) h6
  · have a := h3 j hj
    exact ⟨a.1.trans (hT 54 _ (by simp [lawM]; omega)), a.2.trans (hT 55 _ (by simp [lawM]; omega))⟩
  · have a := h5 j hj
    exact ⟨a.1.trans (hT 58 _ (by simp [lawM]; omega)), a.2.1.trans (hT 59 _ (by simp [lawM]; omega)), a.2.2.trans (hT 60 _ (by simp [lawM]; omega))⟩
theorem rLaw_c {N : Nat} {S T S' T' : SS} (hS : Sm lawC S S') (hl : S'.2.2 = S.2.2) (hT : Sm lawM T T') (h : rLaw N S T) : rLaw N S' T' := by
  obtain ⟨n, h1, h2, h3, h4, h5, h6⟩ := h
  have e4 : gi S' 14 4 = gi S 14 4 := hS 14 4 (Or.inl ⟨rfl, Or.inl rfl⟩)
  have e5 : gi S' 14 5 = gi S 14 5 := hS 14 5 (Or.inl ⟨rfl, Or.inr rfl⟩)
  have t13 : gi T' 52 13 = gi T 52 13 := hT 52 13 (Or.inl ⟨rfl, Or.inl rfl⟩)
  have t25 : gi T' 52 25 = gi T 52 25 := hT 52 25 (Or.inl ⟨rfl, Or.inr rfl⟩)
  refine ⟨n, h1, e4.trans h2, t13.trans h3, by rw [e5, t25]; exact h4, by rw [e5]; exact h5, fun i hi => lawE_c (by omega) hS (by rw [hl]) hT (h6 i hi)⟩
/-- what only scratch changes does not touch -/
def allC (k j : Nat) : Prop := tapeC k j ∨ millC k j ∨ lawC k j ∨ actC k j ∨ imgC k j ∨ seenC k j ∨ miscC k j
def allM (k j : Nat) : Prop := tapeM k j ∨ millM k j ∨ lawM k j ∨ actM k j ∨ imgM k j ∨ seenM k j ∨ miscM k j
theorem Sm.mono {P Q : Nat → Nat → Prop} {S S' : SS} (h : Sm P S S') (hs : ∀ k j, Q k j → P k j) : Sm Q S S' := fun k j q => h k j (hs k j q)
theorem Rel_c {N : Nat} {S T S' T' : SS} (hS : Sm allC S S') (hl : S'.2.2 = S.2.2) (hT : Sm allM T T') (h : Rel N S T) : Rel N S' T' := by
  obtain ⟨E, h1, h2, h3, h4, h5, h6, h7⟩ := h
  refine ⟨E, rTape_c (hS.mono fun _ _ q => Or.inl q) (hT.mono fun _ _ q => Or.inl q) h1, rMill_c (hS.mono fun _ _ q => Or.inr (Or.inl q)) (hT.mono fun _ _ q => Or.inr (Or.inl q)) h2, rLaw_c (hS.mono fun _ _ q => Or.inr (Or.inr (Or.inl q))) hl (hT.mono fun _ _ q => Or.inr (Or.inr (Or.inl q))) h3,
    rAct_c (hS.mono fun _ _ q => Or.inr (Or.inr (Or.inr (Or.inl q)))) (hT.mono fun _ _ q => Or.inr (Or.inr (Or.inr (Or.inl q)))) h4, rImg_c (hS.mono fun _ _ q => Or.inr (Or.inr (Or.inr (Or.inr (Or.inl q))))) (hT.mono fun _ _ q => Or.inr (Or.inr (Or.inr (Or.inr (Or.inl q))))) h5,
    rSeen_c (hS.mono fun _ _ q => Or.inr (Or.inr (Or.inr (Or.inr (Or.inr (Or.inl q)))))) (hT.mono fun _ _ q => Or.inr (Or.inr (Or.inr (Or.inr (Or.inr (Or.inl q)))))) h6, rMisc_c (hS.mono fun _ _ q => Or.inr (Or.inr (Or.inr (Or.inr (Or.inr (Or.inr q)))))) (hT.mono fun _ _ q => Or.inr (Or.inr (Or.inr (Or.inr (Or.inr (Or.inr q)))))) h7⟩
