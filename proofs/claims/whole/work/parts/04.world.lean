abbrev SS : Type := (Nat → Nat → Int32) × Int64 × (Nat → Nat)
def lw4 (a b c d : Nat) : Nat → Option Nat := fun i => if i = 0 then some a else if i = 1 then some b else if i = 2 then some c else if i = 3 then some d else none
def gi (S : SS) (k j : Nat) : Int32 := S.1 k j
def ga (S : SS) (k : Nat) (i : Int32) : Int32 := S.1 k i.toNatClampNeg
def pr (S : SS) (k : Nat) (f : Nat → Int32) : SS := (fun a => if a = k then f else S.1 a, S.2)
def pj (S : SS) (k j : Nat) (v : Int32) : SS := pr S k (upd (S.1 k) j v)
def pa (S : SS) (k : Nat) (i v : Int32) : SS := pj S k i.toNatClampNeg v
def gl (S : SS) : Int64 := S.2.1
def pl (S : SS) (v : Int64) : SS := (S.1, v, S.2.2)
/-- System.arraycopy -/
def cp (S : SS) (k0 : Nat) (sp : Int32) (k1 : Nat) (dp n : Int32) : SS := pr S k1 (va_cpy (S.1 k0) (S.1 k1) sp.toNatClampNeg dp.toNatClampNeg n.toNatClampNeg)
def cpb (sp dp n : Int32) (n0 n1 : Nat) : Bool := decide (¬ sp < 0) && decide (¬ dp < 0) && decide (¬ n < 0) && decide (sp.toNatClampNeg + n.toNatClampNeg ≤ n0) && decide (dp.toNatClampNeg + n.toNatClampNeg ≤ n1)
def inb (i : Int32) (n : Nat) : Bool := decide (¬ i < 0) && decide (i.toNatClampNeg < n)
theorem inb_in {i : Int32} {n : Nat} (h : inb i n = true) : vp_in i n := by
  simp only [inb, Bool.and_eq_true, decide_eq_true_eq] at h
  exact fun q => q.elim h.1 (fun q => absurd h.2 (Nat.not_lt.mpr q))
def ck {α : Type} (b : Bool) (x : Option α) : Option α := match b with
  | true => x
  | false => none
theorem ck_e {α : Type} {b : Bool} {x : Option α} {y : α} (h : ck b x = some y) : b = true ∧ x = some y := by
  cases b
  · cases h
  · exact ⟨rfl, h⟩
def lt {α β : Type} (e : α) (f : α → Option β) : Option β := f e
theorem lt_e {α β : Type} {e : α} {f : α → Option β} {y : β} (h : lt e f = some y) : ∃ x, x = e ∧ f x = some y := ⟨e, rfl, h⟩
def bd {α β : Type} (x : Option α) (f : α → Option β) : Option β := match x with
  | some a => f a
  | none => none
theorem bd_e {α β : Type} {x : Option α} {f : α → Option β} {y : β} (h : bd x f = some y) : ∃ a, x = some a ∧ f a = some y := by
  cases x with
  | none => cases h
  | some a => exact ⟨a, rfl, h⟩
def b2 {α β : Type} (x : Option (SS × α)) (f : SS → α → Option β) : Option β := match x with
  | some (s, a) => f s a
  | none => none
theorem b2_e {α β : Type} {x : Option (SS × α)} {f : SS → α → Option β} {y : β} (h : b2 x f = some y) : ∃ s a, x = some (s, a) ∧ f s a = some y := by
  match x, h with
  | some (s, a), h => exact ⟨s, a, rfl, h⟩
def nb (v : Int32) : Int32 := vp_nar .boolean v
def inK (k : Nat) : Bool := k == 2 || k == 4 || k == 5 || k == 6 || k == 9 || k == 10 || k == 11 || k == 13 || k == 16 || k == 17 || k == 19 || k == 20 || k == 21 || k == 22 || k == 24 || k == 25 || k == 26 || k == 27 || k == 31 || k == 32 || k == 33 || k == 34 || k == 35 || k == 36 || k == 37 || k == 38 || k == 39 || k == 41 || k == 42 || k == 45 || k == 46 || k == 47 || k == 53 || k == 54 || k == 55 || k == 56 || k == 57 || k == 58 || k == 59 || k == 60 || k == 61 || k == 62 || k == 63 || k == 64 || k == 65 || k == 66 || k == 67 || k == 68 || k == 69 || k == 70 || k == 71 || k == 72 || k == 73 || k == 74 || k == 75 || k == 77 || k == 48 || k == 49 || k == 50 || k == 51
def boK (k : Nat) : Bool := k == 43 || k == 76
def aln (ln : Nat → Nat) (k : Nat) : Nat := if k = 2 then 240 else if k = 4 then 7 else if k = 5 then 7 else if k = 6 then 7 else if k = 9 then 7 else if k = 10 then 7 else if k = 11 then 7 else if k = 13 then 240 else if k = 16 then 6 else if k = 17 then 64 else if k = 19 then 7 else if k = 20 then 7 else if k = 21 then 7 else if k = 22 then 7 else if k = 24 then 1320 else if k = 25 then 300 else if k = 26 then 33 else if k = 27 then 300 else if k = 31 then 7 else if k = 32 then 7 else if k = 33 then 7 else if k = 34 then 7 else if k = 35 then 7 else if k = 36 then 8 else if k = 37 then 896 else if k = 38 then 128 else if k = 39 then 7 else if k = 41 then 10 else if k = 42 then 10 else if k = 43 then 10 else if k = 45 then 16 else if k = 46 then 16 else if k = 47 then 5 else if k = 53 then 240 else if k = 54 then 2600 else if k = 55 then 2600 else if k = 56 then 5 else if k = 57 then 5 else if k = 58 then 700 else if k = 59 then 700 else if k = 60 then 700 else if k = 61 then 6 else if k = 62 then 80 else if k = 63 then 4 else if k = 64 then 21 else if k = 65 then 4 else if k = 66 then 21 else if k = 67 then 214 else if k = 68 then 5 else if k = 69 then 8560 else if k = 70 then 7 else if k = 71 then 99 else if k = 72 then 7 else if k = 73 then 7 else if k = 74 then 10 else if k = 75 then 10 else if k = 76 then 10 else if k = 77 then 214 else ln k
def cellE (dA : Nat → ClassId) (ad : Nat → Nat) (r : Nat → Int32) (sd : Int64) (ln : Nat → Nat) (o : Nat → Int64) (k : Nat) : va_E := if inK k || boK k then .inl (dA k, aln ln k, .inl r) else
  if k = 0 then .inr (11, [.ref (ad 1), .ref (ad 3), .ref (ad 7), .ref (ad 12), .ref (ad 14), .ref (ad 18), .ref (ad 23), .ref (ad 28), .ref (ad 29), .ref (ad 40), .ref (ad 44), .ref (ad 47), .int (r 12)]) else
  if k = 1 then .inr (9, [.ref (ad 2), .int (r 1), .int (r 2)]) else
  if k = 3 then .inr (5, [.int (r 0), .int (r 1), .int (r 2), .int (r 3), .int (r 4), .ref (ad 4), .ref (ad 5), .ref (ad 6)]) else
  if k = 7 then .inr (6, [.ref (ad 1), .ref (ad 8)]) else
  if k = 8 then .inr (5, [.int (r 0), .int (r 1), .int (r 2), .int (r 3), .int (r 4), .ref (ad 9), .ref (ad 10), .ref (ad 11)]) else
  if k = 12 then .inr (3, [.ref (ad 1), .ref (ad 13), .int (r 2)]) else
  if k = 14 then .inr (2, [.ref (ad 3), .ref (ad 15), .ref (ad 16), .ref (ad 17), .int (r 4), .int (r 5)]) else
  if k = 18 then .inr (8, [.ref (ad 19), .ref (ad 20), .ref (ad 21), .ref (ad 22), .int (r 4), .int (r 5), .int (r 6), .int (r 7), .int (r 8), .int (r 9)]) else
  if k = 23 then .inr (4, [.ref (ad 24), .ref (ad 25), .ref (ad 26), .ref (ad 27), .int (r 4), .int (r 5), .int (r 6)]) else
  if k = 28 then .inr (10, [.ref (ad 3), .ref (ad 14), .ref (ad 23), .long sd]) else
  if k = 29 then .inr (0, [.ref (ad 3), .ref (ad 28), .ref (ad 18), .ref (ad 30), .ref (ad 35), .ref (ad 36), .ref (ad 37), .ref (ad 38), .ref (ad 39), .int (r 9), .int (r 10), .int (r 11)]) else
  if k = 30 then .inr (8, [.ref (ad 31), .ref (ad 32), .ref (ad 33), .ref (ad 34), .int (r 4), .int (r 5), .int (r 6), .int (r 7), .int (r 8), .int (r 9)]) else
  if k = 40 then .inr (7, [.ref (ad 3), .ref (ad 14), .ref (ad 41), .ref (ad 42), .ref (ad 43), .int (r 5)]) else
  if k = 44 then .inr (1, [.ref (ad 3), .ref (ad 14), .ref (ad 18), .ref (ad 45), .ref (ad 46)]) else
  if k = 52 then .inr (12, [.int (r 0), .ref (ad 53), .int (r 2), .int (r 3), .int (r 4), .int (r 5), .ref (ad 54), .ref (ad 55), .ref (ad 56), .ref (ad 57), .ref (ad 58), .ref (ad 59), .ref (ad 60), .int (r 13), .int (r 14), .ref (ad 61), .ref (ad 62), .ref (ad 63), .ref (ad 64), .int (r 19), .ref (ad 65), .ref (ad 66), .int (r 22), .ref (ad 67), .ref (ad 68), .int (r 25), .int (r 26), .ref (ad 69), .int (r 28), .long sd, .ref (ad 70), .int (r 31), .int (r 32), .int (r 33), .ref (ad 71), .ref (ad 72), .ref (ad 73), .int (r 37), .int (r 38), .ref (ad 74), .ref (ad 75), .ref (ad 76), .int (r 42), .ref (ad 77), .int (r 44)]) else
  if k = 15 then .inl (dA 15, 4, .inr (.inr (.inr (.inr (lw4 (ad 48) (ad 49) (ad 50) (ad 51))))))  else .inl (dA k, 1, .inr (.inl o))
def rwZ (S T : SS) (k : Nat) : Nat → Int32 := if k < 52 then S.1 k else T.1 k
def sdZ (S T : SS) (k : Nat) : Int64 := if k < 52 then S.2.1 else T.2.1
def wsA (dA : Nat → ClassId) (ad : Nat → Nat) (S T : SS) (o : Nat → Int64) : va_W := (List.range 79).map (fun k => (ad k, cellE dA ad (rwZ S T k) (sdZ S T k) S.2.2 o k))
def tyK (k : Nat) : FieldType := if boK k then .boolean else if k = 15 then .array .int else if k = 78 then .long else .int
def tysA (dA : Nat → ClassId) : List (ClassId × FieldType) := (List.range 79).map (fun k => (dA k, tyK k))
theorem ws_at {dA : Nat → ClassId} {ad : Nat → Nat} {S T : SS} {o : Nat → Int64} {k : Nat} (hk : k < 79) : (wsA dA ad S T o)[k]? = some (ad k, cellE dA ad (rwZ S T k) (sdZ S T k) S.2.2 o k) := by
  simp [wsA, List.getElem?_map, List.getElem?_range hk]
theorem ty_at {dA : Nat → ClassId} {k : Nat} (hk : k < 79) : (tysA dA)[k]? = some (dA k, tyK k) := by
  simp [tysA, List.getElem?_map, List.getElem?_range hk]
theorem ws_len {dA : Nat → ClassId} {ad : Nat → Nat} {S T : SS} {o : Nat → Int64} : (wsA dA ad S T o).length = 79 := by simp [wsA]
theorem ws_ext {dA : Nat → ClassId} {ad : Nat → Nat} {S T S' T' : SS} {o o' : Nat → Int64} {k : Nat} {e : va_E} (hk : k < 79) (he : cellE dA ad (rwZ S' T' k) (sdZ S' T' k) S'.2.2 o' k = e) (h : ∀ i, i < 79 → i ≠ k → cellE dA ad (rwZ S' T' i) (sdZ S' T' i) S'.2.2 o' i = cellE dA ad (rwZ S T i) (sdZ S T i) S.2.2 o i) : (wsA dA ad S T o).set k (ad k, e) = wsA dA ad S' T' o' := by
  apply List.ext_getElem?
  intro i
  by_cases hi : i < 79
  · by_cases hik : i = k
    · subst hik
      rw [List.getElem?_set_self (by rw [ws_len]; exact hi), ws_at hi, he]
    · rw [List.getElem?_set_ne (fun q => hik q.symm), ws_at hi, ws_at hi, h i hi hik]
  · rw [List.getElem?_eq_none (by rw [List.length_set, ws_len]; exact Nat.not_lt.mp hi), List.getElem?_eq_none (by rw [ws_len]; exact Nat.not_lt.mp hi)]
theorem ws_setS {dA : Nat → ClassId} {ad : Nat → Nat} {S T : SS} {o : Nat → Int64} {k : Nat} {f : Nat → Int32} {e : va_E} (hk : k < 52) (he : cellE dA ad f S.2.1 S.2.2 o k = e) : (wsA dA ad S T o).set k (ad k, e) = wsA dA ad (pr S k f) T o := by
  refine ws_ext (Nat.lt_trans hk (by decide)) ?_ ?_
  · simpa [rwZ, sdZ, pr, hk] using he
  · intro i hi hne
    simp [rwZ, sdZ, pr, hne]
theorem ws_setT {dA : Nat → ClassId} {ad : Nat → Nat} {S T : SS} {o : Nat → Int64} {k : Nat} {f : Nat → Int32} {e : va_E} (hk : 52 ≤ k) (hk2 : k < 79) (he : cellE dA ad f T.2.1 S.2.2 o k = e) : (wsA dA ad S T o).set k (ad k, e) = wsA dA ad S (pr T k f) o := by
  refine ws_ext hk2 ?_ ?_
  · simpa [rwZ, sdZ, pr, Nat.not_lt.mpr hk] using he
  · intro i hi hne
    simp [rwZ, sdZ, pr, hne]

theorem ws_setSl {dA : Nat → ClassId} {ad : Nat → Nat} {S T : SS} {o : Nat → Int64} {v : Int64} {e : va_E} (he : cellE dA ad (S.1 28) v S.2.2 o 28 = e) : (wsA dA ad S T o).set 28 (ad 28, e) = wsA dA ad (pl S v) T o := by
  refine ws_ext (by decide) ?_ ?_
  · simpa [rwZ, sdZ, pl] using he
  · intro i hi hne
    by_cases h : i < 52
    · simp only [rwZ, sdZ, pl, h, if_true]
      have : ∀ (r : Nat → Int32) (a b : Int64) (k : Nat), k < 52 → k ≠ 28 → cellE dA ad r a S.2.2 o k = cellE dA ad r b S.2.2 o k := by
        intro r a b k h1 h2
        simp [cellE, h2, show k ≠ 52 by omega]
      exact this _ _ _ _ h hne
    · simp [rwZ, sdZ, pl, h]
theorem ws_setTl {dA : Nat → ClassId} {ad : Nat → Nat} {S T : SS} {o : Nat → Int64} {v : Int64} {e : va_E} (he : cellE dA ad (T.1 52) v S.2.2 o 52 = e) : (wsA dA ad S T o).set 52 (ad 52, e) = wsA dA ad S (pl T v) o := by
  refine ws_ext (by decide) ?_ ?_
  · simpa [rwZ, sdZ, pl] using he
  · intro i hi hne
    by_cases h : i < 52
    · simp [rwZ, sdZ, pl, h]
    · simp only [rwZ, sdZ, pl, h, if_false]
      have : ∀ (r : Nat → Int32) (a b : Int64) (k : Nat), ¬ k < 52 → k ≠ 52 → cellE dA ad r a S.2.2 o k = cellE dA ad r b S.2.2 o k := by
        intro r a b k h1 h2
        simp [cellE, h2, show k ≠ 28 by omega]
      exact this _ _ _ _ h hne
theorem obX0 {dA : Nat → ClassId} {ad : Nat → Nat} {S T : SS} {o : Nat → Int64} : (wsA dA ad S T o)[29]? = some (ad 29, .inr (0, [.ref (ad 3), .ref (ad 28), .ref (ad 18), .ref (ad 30), .ref (ad 35), .ref (ad 36), .ref (ad 37), .ref (ad 38), .ref (ad 39), .int (gi S 29 9), .int (gi S 29 10), .int (gi S 29 11)])) := (ws_at (by decide)).trans rfl
theorem obX1 {dA : Nat → ClassId} {ad : Nat → Nat} {S T : SS} {o : Nat → Int64} : (wsA dA ad S T o)[44]? = some (ad 44, .inr (1, [.ref (ad 3), .ref (ad 14), .ref (ad 18), .ref (ad 45), .ref (ad 46)])) := (ws_at (by decide)).trans rfl
theorem obX2 {dA : Nat → ClassId} {ad : Nat → Nat} {S T : SS} {o : Nat → Int64} : (wsA dA ad S T o)[14]? = some (ad 14, .inr (2, [.ref (ad 3), .ref (ad 15), .ref (ad 16), .ref (ad 17), .int (gi S 14 4), .int (gi S 14 5)])) := (ws_at (by decide)).trans rfl
theorem obX3 {dA : Nat → ClassId} {ad : Nat → Nat} {S T : SS} {o : Nat → Int64} : (wsA dA ad S T o)[12]? = some (ad 12, .inr (3, [.ref (ad 1), .ref (ad 13), .int (gi S 12 2)])) := (ws_at (by decide)).trans rfl
theorem obX4 {dA : Nat → ClassId} {ad : Nat → Nat} {S T : SS} {o : Nat → Int64} : (wsA dA ad S T o)[23]? = some (ad 23, .inr (4, [.ref (ad 24), .ref (ad 25), .ref (ad 26), .ref (ad 27), .int (gi S 23 4), .int (gi S 23 5), .int (gi S 23 6)])) := (ws_at (by decide)).trans rfl
theorem obX5 {dA : Nat → ClassId} {ad : Nat → Nat} {S T : SS} {o : Nat → Int64} {k : Nat} (hk : k = 3 ∨ k = 8) : (wsA dA ad S T o)[k]? = some (ad k, .inr (5, [.int (gi S k 0), .int (gi S k 1), .int (gi S k 2), .int (gi S k 3), .int (gi S k 4), .ref (ad (k + 1)), .ref (ad (k + 2)), .ref (ad (k + 3))])) := by
  rcases hk with rfl | rfl <;> exact (ws_at (by decide)).trans rfl
theorem obX6 {dA : Nat → ClassId} {ad : Nat → Nat} {S T : SS} {o : Nat → Int64} : (wsA dA ad S T o)[7]? = some (ad 7, .inr (6, [.ref (ad 1), .ref (ad 8)])) := (ws_at (by decide)).trans rfl
theorem obX7 {dA : Nat → ClassId} {ad : Nat → Nat} {S T : SS} {o : Nat → Int64} : (wsA dA ad S T o)[40]? = some (ad 40, .inr (7, [.ref (ad 3), .ref (ad 14), .ref (ad 41), .ref (ad 42), .ref (ad 43), .int (gi S 40 5)])) := (ws_at (by decide)).trans rfl
theorem obX8 {dA : Nat → ClassId} {ad : Nat → Nat} {S T : SS} {o : Nat → Int64} {k : Nat} (hk : k = 18 ∨ k = 30) : (wsA dA ad S T o)[k]? = some (ad k, .inr (8, [.ref (ad (k + 1)), .ref (ad (k + 2)), .ref (ad (k + 3)), .ref (ad (k + 4)), .int (gi S k 4), .int (gi S k 5), .int (gi S k 6), .int (gi S k 7), .int (gi S k 8), .int (gi S k 9)])) := by
  rcases hk with rfl | rfl <;> exact (ws_at (by decide)).trans rfl
theorem obX9 {dA : Nat → ClassId} {ad : Nat → Nat} {S T : SS} {o : Nat → Int64} : (wsA dA ad S T o)[1]? = some (ad 1, .inr (9, [.ref (ad 2), .int (gi S 1 1), .int (gi S 1 2)])) := (ws_at (by decide)).trans rfl
theorem obX10 {dA : Nat → ClassId} {ad : Nat → Nat} {S T : SS} {o : Nat → Int64} : (wsA dA ad S T o)[28]? = some (ad 28, .inr (10, [.ref (ad 3), .ref (ad 14), .ref (ad 23), .long (gl S)])) := (ws_at (by decide)).trans rfl
theorem obX11 {dA : Nat → ClassId} {ad : Nat → Nat} {S T : SS} {o : Nat → Int64} : (wsA dA ad S T o)[0]? = some (ad 0, .inr (11, [.ref (ad 1), .ref (ad 3), .ref (ad 7), .ref (ad 12), .ref (ad 14), .ref (ad 18), .ref (ad 23), .ref (ad 28), .ref (ad 29), .ref (ad 40), .ref (ad 44), .ref (ad 47), .int (gi S 0 12)])) := (ws_at (by decide)).trans rfl
theorem obX12 {dA : Nat → ClassId} {ad : Nat → Nat} {S T : SS} {o : Nat → Int64} : (wsA dA ad S T o)[52]? = some (ad 52, .inr (12, [.int (gi T 52 0), .ref (ad 53), .int (gi T 52 2), .int (gi T 52 3), .int (gi T 52 4), .int (gi T 52 5), .ref (ad 54), .ref (ad 55), .ref (ad 56), .ref (ad 57), .ref (ad 58), .ref (ad 59), .ref (ad 60), .int (gi T 52 13), .int (gi T 52 14), .ref (ad 61), .ref (ad 62), .ref (ad 63), .ref (ad 64), .int (gi T 52 19), .ref (ad 65), .ref (ad 66), .int (gi T 52 22), .ref (ad 67), .ref (ad 68), .int (gi T 52 25), .int (gi T 52 26), .ref (ad 69), .int (gi T 52 28), .long (gl T), .ref (ad 70), .int (gi T 52 31), .int (gi T 52 32), .int (gi T 52 33), .ref (ad 71), .ref (ad 72), .ref (ad 73), .int (gi T 52 37), .int (gi T 52 38), .ref (ad 74), .ref (ad 75), .ref (ad 76), .int (gi T 52 42), .ref (ad 77), .int (gi T 52 44)])) := (ws_at (by decide)).trans rfl
theorem inK_lt {k : Nat} (h : inK k = true) : k < 79 := by
  simp only [inK, Bool.or_eq_true, beq_iff_eq] at h
  omega
theorem boK_lt {k : Nat} (h : boK k = true) : k < 79 := by
  simp only [boK, Bool.or_eq_true, beq_iff_eq] at h
  omega
theorem inK_ty {k : Nat} (h : inK k = true) : tyK k = .int := by
  simp only [inK, Bool.or_eq_true, beq_iff_eq] at h
  have h1 : boK k = false := by
    simp only [boK, Bool.or_eq_false_iff, beq_eq_false_iff_ne]
    omega
  simp [tyK, h1, show k ≠ 15 by omega, show k ≠ 78 by omega]
theorem arS {dA : Nat → ClassId} {ad : Nat → Nat} {S T : SS} {o : Nat → Int64} {k : Nat} (h : inK k = true) (hk : k < 52) : (wsA dA ad S T o)[k]? = some (ad k, .inl (dA k, aln S.2.2 k, .inl (S.1 k))) := by
  rw [ws_at (inK_lt h)]
  simp [cellE, h, rwZ, hk]
theorem arT {dA : Nat → ClassId} {ad : Nat → Nat} {S T : SS} {o : Nat → Int64} {k : Nat} (h : inK k = true) (hk : 52 ≤ k) : (wsA dA ad S T o)[k]? = some (ad k, .inl (dA k, aln S.2.2 k, .inl (T.1 k))) := by
  rw [ws_at (inK_lt h)]
  simp [cellE, h, rwZ, Nat.not_lt.mpr hk]

/-- what may change: the cells, and what is new -/
def AA (ad : Nat → Nat) (sz : Nat) : Nat → Prop := fun q => (∃ k, k < 79 ∧ q = ad k) ∨ sz ≤ q
def vLs (j : Nat) : Int32 := if j = 2 ∨ j = 5 ∨ j = 6 then 1 else 0
def vMs (j : Nat) : Int32 := if j = 3 then 99 else if j = 4 ∨ j = 6 then 20 else if j = 5 then 6 else 9
def fLs : Nat → Value := fun j => .int (vLs j)
def fMs : Nat → Value := fun j => .int (vMs j)
def STA (t1 t2 : Nat) (A : Nat → Prop) (U : State) (H : Heap) : Prop := (va_Z "LooseEnds$MillReader" "LEAST" "[I" (.ref t1) A U H ∧ va_T .int t1 7 fLs A U H) ∧ va_Z "LooseEnds$MillReader" "MOST" "[I" (.ref t2) A U H ∧ va_T .int t2 7 fMs A U H
theorem STA.to {t1 t2 : Nat} {A B : Nat → Prop} {u U : State} {H H1 : Heap} (h : STA t1 t2 A u H) (hvm : u.vm.Alike U.vm) (hq : ∀ a : Nat, a < H.size → ¬ A a → H1[a]? = H[a]?) (hAB : ∀ q, B q → A q) : STA t1 t2 B U H1 :=
  ⟨⟨((h.1.1.kept hq).narrow hAB).moved hvm, ((h.1.2.kept hq).narrow hAB).moved hvm⟩, ((h.2.1.kept hq).narrow hAB).moved hvm, ((h.2.2.kept hq).narrow hAB).moved hvm⟩
/-- the world while a method runs that began at s -/
def WD (D : va_G) (dA : Nat → ClassId) (ad : Nat → Nat) (t1 t2 : Nat) (A : Nat → Prop) (s : State) (S T : SS) (o : Nat → Int64) (H : Heap) (locs : List Loc) : Prop :=
  va_K D vwCl (tysA dA) s ∧ va_P D vwCl (wsA dA ad S T o) H ∧ va_D A (wsA dA ad S T o) ∧ va_S A s.heap H locs ∧ (∀ q, s.heap.size ≤ q → A q) ∧ STA t1 t2 A s s.heap
def PRE (D : va_G) (dA : Nat → ClassId) (ad : Nat → Nat) (t1 t2 : Nat) (S T : SS) (o : Nat → Int64) (sz : Nat) (U : State) : Prop :=
  U.heap.size = sz ∧ va_P D vwCl (wsA dA ad S T o) U.heap ∧ va_K D vwCl (tysA dA) U ∧ va_D (fun _ => True) (wsA dA ad S T o) ∧ STA t1 t2 (AA ad sz) U U.heap
def POS (D : va_G) (dA : Nat → ClassId) (ad : Nat → Nat) (A : Nat → Prop) (u : SS × SS × (Nat → Int64)) (t : State) : Prop :=
  va_P D vwCl (wsA dA ad u.1 u.2.1 u.2.2) t.heap ∧ va_K D vwCl (tysA dA) t ∧ va_D A (wsA dA ad u.1 u.2.1 u.2.2)
/-- contracts: int, boolean, long, void -/
def KI (l : Launch) (D : va_G) (dA : Nat → ClassId) (ad : Nat → Nat) (t1 t2 : Nat) (y : MethodName) (cc : ByteArray) (mL : Nat) (rt : FieldType) (rm : Room) (av : List Value) (S T : SS) (o : Nat → Int64) (r : Int32) (S' T' : SS) : Prop :=
  ∀ sz, Met l y (.code y cc mL (some rt) :: BG) rm (va_Pc av (PRE D dA ad t1 t2 S T o sz)) (va_Qi (fun r' u => (r' = r ∧ narrow rt (.int r) = .int r) ∧ u = (S', T', o)) (POS D dA ad (AA ad sz)) (AA ad sz)) 0 0 (AA ad sz)
def KL (l : Launch) (D : va_G) (dA : Nat → ClassId) (ad : Nat → Nat) (t1 t2 : Nat) (y : MethodName) (cc : ByteArray) (mL : Nat) (rm : Room) (av : List Value) (S T : SS) (o : Nat → Int64) (r : Int64) (S' T' : SS) : Prop :=
  ∀ sz, Met l y (.code y cc mL (some .long) :: BG) rm (va_Pc av (PRE D dA ad t1 t2 S T o sz)) (va_Ql (fun r' u => r' = r ∧ u = (S', T', o)) (POS D dA ad (AA ad sz)) (AA ad sz)) 0 0 (AA ad sz)
def KV (l : Launch) (D : va_G) (dA : Nat → ClassId) (ad : Nat → Nat) (t1 t2 : Nat) (y : MethodName) (cc : ByteArray) (mL : Nat) (rm : Room) (av : List Value) (S T : SS) (o : Nat → Int64) (S' T' : SS) : Prop :=
  ∀ sz, Met l y (.code y cc mL none :: BG) rm (va_Pc av (PRE D dA ad t1 t2 S T o sz)) (va_Qv (fun u => u = (S', T', o)) (POS D dA ad (AA ad sz)) (AA ad sz)) 0 0 (AA ad sz)
theorem ws_key {dA : Nat → ClassId} {ad : Nat → Nat} {S T : SS} {o : Nat → Int64} {k : Nat} {q : Nat × va_E} (h : (wsA dA ad S T o)[k]? = some q) : k < 79 ∧ q.1 = ad k := by
  have hk : k < 79 := by
    have := (List.getElem?_eq_some_iff.mp h).1
    rwa [ws_len] at this
  rw [ws_at hk] at h
  cases h
  exact ⟨hk, rfl⟩
theorem WD.aa {D : va_G} {dA : Nat → ClassId} {ad : Nat → Nat} {t1 t2 : Nat} {A : Nat → Prop} {s : State} {S T : SS} {o : Nat → Int64} {H : Heap} {locs : List Loc} (w : WD D dA ad t1 t2 A s S T o H locs) : ∀ q, AA ad H.size q → A q := by
  intro q hq
  rcases hq with ⟨k, hk, rfl⟩ | hq
  · exact w.2.2.1.2 k _ (ws_at hk)
  · exact w.2.2.2.2.1 q (Nat.le_trans w.2.2.2.1.1 hq)
theorem WD.pre {D : va_G} {dA : Nat → ClassId} {ad : Nat → Nat} {t1 t2 : Nat} {A : Nat → Prop} {s : State} {S T : SS} {o : Nat → Int64} {H : Heap} {locs : List Loc} (w : WD D dA ad t1 t2 A s S T o H locs) {U : State} (hU : U.heap = H) (hW : s.vm.Alike U.vm) : PRE D dA ad t1 t2 S T o H.size U := by
  refine ⟨by rw [hU], by rw [hU]; exact w.2.1, va_K.moved hW w.1, w.2.2.1.weaken (fun _ _ _ _ => trivial), ?_⟩
  rw [hU]
  exact w.2.2.2.2.2.to hW w.2.2.2.1.2.1 w.aa
theorem PRE.blind {D : va_G} {dA : Nat → ClassId} {ad : Nat → Nat} {t1 t2 : Nat} {S T : SS} {o : Nat → Int64} {sz : Nat} {av : List Value} : FrameBlind (va_Pc av (PRE D dA ad t1 t2 S T o sz)) := by
  intro a U g mk q
  obtain ⟨q0, q1, qP, qK, qD, qS⟩ := q
  exact ⟨q0, q1, qP, va_K.moved (u := U) (U := U.calling g mk a) (Vm.Alike.refl U.vm) qK, qD, STA.to (u := U) (U := U.calling g mk a) qS (Vm.Alike.refl U.vm) (fun _ _ _ => rfl) (fun _ h => h)⟩
theorem PRE.wd {D : va_G} {dA : Nat → ClassId} {ad : Nat → Nat} {t1 t2 : Nat} {S T : SS} {o : Nat → Int64} {s : State} {sz : Nat} (h : PRE D dA ad t1 t2 S T o sz s) : sz = s.heap.size ∧ WD D dA ad t1 t2 (AA ad s.heap.size) s S T o s.heap [] := by
  obtain ⟨rfl, qP, qK, qD, qS⟩ := h
  refine ⟨rfl, qK, qP, ⟨qD.1, fun k q hk => Or.inl ?_⟩, va_S.rf, fun q h => Or.inr h, qS⟩
  exact ⟨k, (ws_key hk).1, (ws_key hk).2⟩
theorem WD.pos {D : va_G} {dA : Nat → ClassId} {ad : Nat → Nat} {t1 t2 : Nat} {A : Nat → Prop} {s : State} {S T S' T' : SS} {o : Nat → Int64} {H H1 : Heap} {locs locs1 : List Loc} {t : State} (w : WD D dA ad t1 t2 A s S T o H locs) (ht : t.heap = H1) (hvm : s.vm.Alike t.vm) (hB : POS D dA ad (AA ad H.size) (S', T', o) t) (hS : va_S A s.heap H1 locs1) : WD D dA ad t1 t2 A s S' T' o H1 locs1 := by
  refine ⟨w.1, by rw [← ht]; exact hB.1, ⟨hB.2.2.1, fun k q hk => w.aa _ (hB.2.2.2 k q hk)⟩, hS, w.2.2.2.2.1, w.2.2.2.2.2⟩

