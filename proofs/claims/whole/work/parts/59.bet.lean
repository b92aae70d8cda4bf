/-! plan: candidates, and the better of two -/
def bet : Option (Nat × Nat) → Nat × Nat → Option (Nat × Nat)
  | none, c => some c
  | some s, c => if s.1 < c.1 ∨ (c.1 = s.1 ∧ c.2 < s.2) then some c else some s
def bjn : Option (Nat × Nat) → Option (Nat × Nat) → Option (Nat × Nat)
  | s, none => s
  | s, some c => bet s c
theorem bet_as (s : Option (Nat × Nat)) (c d : Nat × Nat) : bet (bet s c) d = bjn s (bet (some c) d) := by
  cases s with
  | none =>
    simp only [bet]
    split <;> rfl
  | some s =>
    by_cases h1 : s.1 < c.1 ∨ (c.1 = s.1 ∧ c.2 < s.2)
    · by_cases h2 : c.1 < d.1 ∨ (d.1 = c.1 ∧ d.2 < c.2)
      · simp only [bet, if_pos h1, if_pos h2, bjn]
        rw [if_pos (by omega)]
      · simp only [bet, if_pos h1, if_neg h2, bjn]
    · by_cases h2 : c.1 < d.1 ∨ (d.1 = c.1 ∧ d.2 < c.2)
      · simp only [bet, if_neg h1, if_pos h2, bjn]
      · simp only [bet, if_neg h1, if_neg h2, bjn]
        rw [if_neg (by omega)]
theorem bet_fold : ∀ (l : List (Nat × Nat)) (s : Option (Nat × Nat)), l.foldl bet s = bjn s (l.foldl bet none)
  | [], s => rfl
  | c :: l, s => by
    show l.foldl bet (bet s c) = bjn s (l.foldl bet (some c))
    rw [bet_fold l (bet s c), bet_fold l (some c)]
    cases l.foldl bet none with
    | none => rfl
    | some d => exact bet_as s c d
theorem bet_mem : ∀ (l : List (Nat × Nat)) (s : Option (Nat × Nat)) (c : Nat × Nat), l.foldl bet s = some c → s = some c ∨ c ∈ l
  | [], s, c, h => Or.inl h
  | d :: l, s, c, h => by
    rcases bet_mem l (bet s d) c h with q | q
    · cases s with
      | none =>
        simp only [bet] at q
        cases q
        exact Or.inr (List.mem_cons_self ..)
      | some s =>
        simp only [bet] at q
        split at q
        · cases q
          exact Or.inr (List.mem_cons_self ..)
        · exact Or.inl q
    · exact Or.inr (List.mem_cons_of_mem _ q)
theorem bet_sm : ∀ (l : List (Nat × Nat)) (s : Nat × Nat), ∃ x, l.foldl bet (some s) = some x
  | [], s => ⟨s, rfl⟩
  | c :: l, s => by
    show ∃ x, l.foldl bet (bet (some s) c) = some x
    simp only [bet]
    split
    · exact bet_sm l c
    · exact bet_sm l s
theorem bet_stay {s : Nat × Nat} : ∀ (l : List (Nat × Nat)), (∀ c, c ∈ l → ¬ (s.1 < c.1 ∨ (c.1 = s.1 ∧ c.2 < s.2))) → l.foldl bet (some s) = some s
  | [], _ => rfl
  | c :: l, h => by
    show l.foldl bet (bet (some s) c) = some s
    have e : bet (some s) c = some s := if_neg (h c (List.mem_cons_self ..))
    rw [e]
    exact bet_stay l (fun d hd => h d (List.mem_cons_of_mem _ hd))
def mvF (M R : Nat) (c : Nat × Nat) : Nat × Nat := (M + c.1, 100 * R + c.2)
theorem bet_map (M R : Nat) : ∀ (l : List (Nat × Nat)) (s : Option (Nat × Nat)), (l.map (mvF M R)).foldl bet (s.map (mvF M R)) = (l.foldl bet s).map (mvF M R)
  | [], s => rfl
  | c :: l, s => by
    have e : bet (s.map (mvF M R)) (mvF M R c) = (bet s c).map (mvF M R) := by
      cases s with
      | none => rfl
      | some s =>
        simp only [bet, Option.map, mvF]
        by_cases h1 : s.1 < c.1 ∨ (c.1 = s.1 ∧ c.2 < s.2)
        · rw [if_pos h1, if_pos (by omega)]
        · rw [if_neg h1, if_neg (by omega)]
    show (l.map (mvF M R)).foldl bet (bet (s.map (mvF M R)) (mvF M R c)) = (l.foldl bet (bet s c)).map (mvF M R)
    rw [e]
    exact bet_map M R l (bet s c)
/-- what the open pairs from the k-th on make -/
def cK (E : Nat) (op : Nat → Nat → Bool) (X : Nat → Nat → Nat × Nat) : Nat → Nat → List (Nat × Nat)
  | 0, _ => []
  | j + 1, k => if op (k / E) (k % E) then X (k / E) (k % E) :: cK E op X j (k + 1) else cK E op X j (k + 1)
theorem cK_mem {E : Nat} {op : Nat → Nat → Bool} {X : Nat → Nat → Nat × Nat} : ∀ (j k : Nat) (c : Nat × Nat), c ∈ cK E op X j k → ∃ i, k ≤ i ∧ i < k + j ∧ c = X (i / E) (i % E)
  | 0, _, _, h => nomatch h
  | j + 1, k, c, h => by
    unfold cK at h
    split at h
    · rcases List.mem_cons.mp h with h | h
      · exact ⟨k, by omega, by omega, h⟩
      · obtain ⟨i, h1, h2, h3⟩ := cK_mem j (k + 1) c h
        exact ⟨i, by omega, by omega, h3⟩
    · obtain ⟨i, h1, h2, h3⟩ := cK_mem j (k + 1) c h
      exact ⟨i, by omega, by omega, h3⟩
theorem cK_map {E : Nat} {op : Nat → Nat → Bool} {X : Nat → Nat → Nat × Nat} (f : Nat × Nat → Nat × Nat) : ∀ (j k : Nat), cK E op (fun a b => f (X a b)) j k = (cK E op X j k).map f
  | 0, _ => rfl
  | j + 1, k => by
    unfold cK
    rw [cK_map f j (k + 1)]
    split <;> rfl
theorem kst {E a b : Nat} (hE : E ≤ 7) (ha : a < E) (hb : b < E) : E * E - (a * E + b) = (E * E - (a * E + (b + 1))) + 1 ∧ (a * E + b) / E = a ∧ (a * E + b) % E = b ∧ a * E + b < E * E := by
  rcases (by omega : E = 1 ∨ E = 2 ∨ E = 3 ∨ E = 4 ∨ E = 5 ∨ E = 6 ∨ E = 7) with rfl | rfl | rfl | rfl | rfl | rfl | rfl <;> omega
theorem kro {E i k : Nat} (hE : E ≤ 7) (h0 : 0 < E) (h : i < k) : 10 * (i / E) + i % E < 10 * (k / E) + k % E := by
  rcases (by omega : E = 1 ∨ E = 2 ∨ E = 3 ∨ E = 4 ∨ E = 5 ∨ E = 6 ∨ E = 7) with rfl | rfl | rfl | rfl | rfl | rfl | rfl <;> omega
theorem kin {E i : Nat} (hE : E ≤ 7) (h : i < E * E) : i / E < E ∧ i % E < E := by
  have h0 : 0 < E := by
    rcases Nat.eq_zero_or_pos E with rfl | q
    · omega
    · exact q
  exact ⟨Nat.div_lt_of_lt_mul h, Nat.mod_lt _ h0⟩
theorem cK_at {E a b : Nat} {op : Nat → Nat → Bool} {X : Nat → Nat → Nat × Nat} (hE : E ≤ 7) (ha : a < E) (hb : b < E) : cK E op X (E * E - (a * E + b)) (a * E + b) = if op a b then X a b :: cK E op X (E * E - (a * E + (b + 1))) (a * E + (b + 1)) else cK E op X (E * E - (a * E + (b + 1))) (a * E + (b + 1)) := by
  obtain ⟨h1, h2, h3, _⟩ := kst hE ha hb
  rw [h1]
  show (if op ((a * E + b) / E) ((a * E + b) % E) then X ((a * E + b) / E) ((a * E + b) % E) :: cK E op X (E * E - (a * E + (b + 1))) (a * E + b + 1) else cK E op X (E * E - (a * E + (b + 1))) (a * E + b + 1)) = _
  rw [h2, h3]
  rfl
/-! what may differ in the reference: cells of a list, and slots of its own that are scratch -/
def scj (j : Nat) : Prop := j = 31 ∨ j = 32 ∨ j = 33 ∨ j = 37 ∨ j = 38
def FT (X : List Nat) (T T' : SS) : Prop := (∀ k j, k ∉ X → ¬ (k = 52 ∧ scj j) → T'.1 k j = T.1 k j) ∧ T'.2 = T.2
theorem FT.rf {X : List Nat} {T : SS} : FT X T T := ⟨fun _ _ _ _ => rfl, rfl⟩
theorem FT.tr {X : List Nat} {T T' T'' : SS} (h : FT X T T') (h' : FT X T' T'') : FT X T T'' := ⟨fun k j hk hj => (h'.1 k j hk hj).trans (h.1 k j hk hj), h'.2.trans h.2⟩
theorem FT.mono {X Y : List Nat} {T T' : SS} (h : FT X T T') (hs : ∀ k, k ∈ X → k ∈ Y) : FT Y T T' := ⟨fun k j hk => h.1 k j (fun q => hk (hs k q)), h.2⟩
theorem FT.of {X : List Nat} {T T' : SS} (h : Fr X T T') : FT X T T' := ⟨fun k j hk _ => congrFun (h.1 k hk) j, h.2⟩
theorem FT.pj {X : List Nat} {T : SS} {j : Nat} {v : Int32} (hj : scj j) : FT X T (pj T 52 j v) := ⟨fun k i _ hi => by
  have e := gi_pj (S := T) (k := 52) (k' := k) (j := j) (j' := i) (v := v)
  unfold gi at e
  rw [e]
  by_cases h1 : k = 52
  · rw [if_pos h1, if_neg (fun q : i = j => hi ⟨h1, by rw [q]; exact hj⟩)]
  · rw [if_neg h1], rfl⟩
theorem FT.row {X : List Nat} {T T' : SS} (h : FT X T T') {k : Nat} (hk : k ∉ X) (h52 : k ≠ 52) : T'.1 k = T.1 k := funext fun j => h.1 k j hk (fun q => h52 q.1)
theorem FT.sl {X : List Nat} {T T' : SS} (h : FT X T T') {j : Nat} (hk : 52 ∉ X) (hj : ¬ scj j) : gi T' 52 j = gi T 52 j := h.1 52 j hk (fun q => hj q.2)
theorem Mx.ft {E N F H : Nat} {G : Int32 → Int32 → Int32 → Int32 → Int32 → Bool} {pl : Nat → Int32} {T T' : SS} {X : List Nat} (h : Mx E N F H G pl T) (hf : FT X T T') (hx : ∀ k, k ∈ X → k ≠ 52 ∧ (k < 54 ∨ 60 < k) ∧ k ≠ 65 ∧ k ≠ 66) : Mx E N F H G pl T' :=
  h.c (fun k j p => hf.1 k j (fun q => by
    have := hx k q
    rcases p with (⟨p, _⟩ | ⟨p, _⟩ | ⟨p, _⟩ | ⟨p, _⟩ | ⟨p, _⟩ | ⟨p, _⟩ | ⟨p, _⟩) | ⟨p, _⟩ | p | p <;> omega) (fun q => by
    unfold scj at q
    rcases p with (⟨p, p2⟩ | ⟨p, _⟩ | ⟨p, _⟩ | ⟨p, _⟩ | ⟨p, _⟩ | ⟨p, _⟩ | ⟨p, _⟩) | ⟨p, p2⟩ | p | p <;> omega))
theorem rel_ft {N : Nat} {S T S' T' : SS} (h : Rel N S T) (hS : Fr [16, 17, 29, 30, 31, 32, 33, 34, 35, 36, 37, 38, 39, 45, 46] S S') (hT : FT [61, 62, 70, 71, 72, 73] T T') : Rel N S' T' := by
  refine Rel_c (Sm.fr hS fun k j p => ?_) (by rw [hS.2]) (fun k j p => hT.1 k j ?_ ?_) h
  · simp only [allC, tapeC, millC, lawC, actC, imgC, seenC, miscC] at p
    simp
    omega
  · simp only [allM, tapeM, millM, lawM, actM, imgM, seenM, miscM] at p
    simp
    omega
  · simp only [allM, tapeM, millM, lawM, actM, imgM, seenM, miscM] at p
    unfold scj
    omega
