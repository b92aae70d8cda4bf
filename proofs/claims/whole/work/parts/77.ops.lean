/-! what a law reckons: steps on a stack, both ways -/
def stN (o : Nat × Nat) : Nat := if o.1 = 0 then o.2 else if o.1 = 1 then 10000 + o.2 else if o.1 = 9 then 10019 else if o.1 = 10 then 10017 else if o.1 = 11 then 10018 else 10008 + o.1
def stI (o : Nat × Nat) : Int32 := nI (stN o)
def okO (o : Nat × Nat) : Prop := (o.1 = 0 ∧ o.2 ≤ 9999) ∨ (o.1 = 1 ∧ o.2 < 6) ∨ (2 ≤ o.1 ∧ o.1 ≤ 11)
def clp (r : Int64) : Int32 := (lmx (-1000000) (lmn 1000000 r) : Int64).toInt32
def rkC (c : Nat) (a b : Int32) : Option Int32 := bd (fX2_reckon 0 (nI (stN (c, 0))) a.toInt64 b.toInt64) fun r => some (clp r)
def rkM (c : Nat) (a b : Int32) : Option Int32 := fX12_worked 0 (nI c) a.toInt64 b.toInt64
def ev1 (rk : Nat → Int32 → Int32 → Option Int32) (L : Nat → Int32) (cap : Nat) (o : Nat × Nat) (st : List Int32) : Option (List Int32) :=
  if o.1 = 0 then (if st.length < cap then some (nI o.2 :: st) else none) else
  if o.1 = 1 then (if st.length < cap then some (L o.2 :: st) else none) else
  if o.1 = 9 then (match st with
    | x :: s => some ((1 - x) :: s)
    | [] => none) else
  (match st with
    | b :: a :: s => (rk o.1 a b).map (fun v => v :: s)
    | _ => none)
def ev (rk : Nat → Int32 → Int32 → Option Int32) (L : Nat → Int32) (cap : Nat) : List (Nat × Nat) → List Int32 → Option (List Int32)
  | [], st => some st
  | o :: r, st => match ev1 rk L cap o st with
    | some s => ev rk L cap r s
    | none => none
theorem ev_app {rk : Nat → Int32 → Int32 → Option Int32} {L : Nat → Int32} {cap : Nat} : ∀ (x y : List (Nat × Nat)) (st s : List Int32), ev rk L cap x st = some s → ev rk L cap (x ++ y) st = ev rk L cap y s
  | [], y, st, s, h => by
    cases h
    rfl
  | o :: x, y, st, s, h => by
    unfold ev at h
    show (match ev1 rk L cap o st with
      | some s => ev rk L cap (x ++ y) s
      | none => none) = _
    cases hq : ev1 rk L cap o st with
    | none =>
      rw [hq] at h
      cases h
    | some s1 =>
      rw [hq] at h
      exact ev_app x y s1 s h
theorem ev_one {rk : Nat → Int32 → Int32 → Option Int32} {L : Nat → Int32} {cap : Nat} {o : Nat × Nat} {st s : List Int32} (h : ev1 rk L cap o st = some s) : ev rk L cap [o] st = some s := by
  show (match ev1 rk L cap o st with
    | some s => ev rk L cap [] s
    | none => none) = _
  rw [h]
  rfl
def Num (k : Nat) (ops : List (Nat × Nat)) : Prop := (∀ o, o ∈ ops → okO o) ∧ ∀ L cap st, st.length + k ≤ cap → ∃ v, ev rkC L cap ops st = some (v :: st) ∧ ev rkM L cap ops st = some (v :: st)
def Boo (k : Nat) (ops : List (Nat × Nat)) : Prop := (∀ o, o ∈ ops → okO o) ∧ ∀ L cap st, st.length + k ≤ cap → ∃ v, (v = 0 ∨ v = 1) ∧ ev rkC L cap ops st = some (v :: st) ∧ ev rkM L cap ops st = some (v :: st)
theorem Num.mono {k k' : Nat} {ops : List (Nat × Nat)} (h : Num k ops) (hk : k ≤ k') : Num k' ops := ⟨h.1, fun L cap st hc => h.2 L cap st (by omega)⟩
theorem Boo.mono {k k' : Nat} {ops : List (Nat × Nat)} (h : Boo k ops) (hk : k ≤ k') : Boo k' ops := ⟨h.1, fun L cap st hc => h.2 L cap st (by omega)⟩
theorem num_n {v : Nat} (h : v ≤ 9999) : Num 1 [(0, v)] := ⟨fun o ho => by
  rw [List.mem_singleton.mp ho]
  exact Or.inl ⟨rfl, h⟩, fun L cap st hc => by
  have e : ∀ rk, ev1 rk L cap (0, v) st = some (nI v :: st) := fun rk => by
    unfold ev1
    rw [if_pos rfl, if_pos (by omega)]
  exact ⟨nI v, ev_one (e _), ev_one (e _)⟩⟩
theorem num_l {v : Nat} (h : v < 6) : Num 1 [(1, v)] := ⟨fun o ho => by
  rw [List.mem_singleton.mp ho]
  exact Or.inr (Or.inl ⟨rfl, h⟩), fun L cap st hc => by
  have e : ∀ rk, ev1 rk L cap (1, v) st = some (L v :: st) := fun rk => by
    unfold ev1
    rw [if_neg (show ¬ (1 : Nat) = 0 by decide), if_pos rfl, if_pos (by omega)]
  exact ⟨L v, ev_one (e _), ev_one (e _)⟩⟩
theorem ev_bin {rk : Nat → Int32 → Int32 → Option Int32} {L : Nat → Int32} {cap c : Nat} {a b v : Int32} {st : List Int32} (h2 : 2 ≤ c) (h9 : c ≠ 9) (h : rk c a b = some v) : ev1 rk L cap (c, 0) (b :: a :: st) = some (v :: st) := by
  unfold ev1
  rw [if_neg (show ¬ c = 0 by omega), if_neg (show ¬ c = 1 by omega), if_neg (show ¬ c = 9 from h9)]
  show (rk c a b).map (fun v => v :: st) = _
  rw [h]
  rfl
theorem clp0 : clp 0 = 0 := by decide
theorem clp1 : clp 1 = 1 := by decide
theorem rk_ar {c : Nat} (h : 2 ≤ c) (h5 : c ≤ 5) (a b : Int32) : ∃ v, rkC c a b = some v ∧ rkM c a b = some v := by
  rcases (by omega : c = 2 ∨ c = 3 ∨ c = 4 ∨ c = 5) with rfl | rfl | rfl | rfl
  · exact ⟨_, rfl, rfl⟩
  · exact ⟨_, rfl, rfl⟩
  · exact ⟨_, rfl, rfl⟩
  · have e1 : rkC 5 a b = bd (if lg_cmp b.toInt64 0 = 0 then some 0 else ck (decide (¬ b.toInt64 = 0)) (some (a.toInt64 / b.toInt64))) (fun r => some (clp r)) := rfl
    have e2 : rkM 5 a b = (if lg_cmp b.toInt64 0 = 0 then some 0 else ck (decide (¬ b.toInt64 = 0)) (some (clp (a.toInt64 / b.toInt64)))) := rfl
    rw [e1, e2]
    by_cases hz : lg_cmp b.toInt64 0 = 0
    · rw [if_pos hz, if_pos hz]
      exact ⟨0, by rw [bd_s rfl, clp0], rfl⟩
    · have hz2 : ¬ b.toInt64 = 0 := fun z => hz ((lg_cmp_eq _ _).mpr z)
      rw [if_neg hz, if_neg hz, ck_t (decide_eq_true hz2), ck_t (decide_eq_true hz2)]
      exact ⟨_, rfl, rfl⟩
theorem rk_cm {c : Nat} (h : 6 ≤ c) (h5 : c ≤ 8) (a b : Int32) : ∃ v, (v = 0 ∨ v = 1) ∧ rkC c a b = some v ∧ rkM c a b = some v := by
  have k0 : (bd (some (0 : Int64)) fun r => some (clp r)) = some 0 := by rw [bd_s rfl, clp0]
  have k1 : (bd (some (1 : Int64)) fun r => some (clp r)) = some 1 := by rw [bd_s rfl, clp1]
  rcases (by omega : c = 6 ∨ c = 7 ∨ c = 8) with rfl | rfl | rfl
  · have e1 : rkC 6 a b = bd (if lg_cmp a.toInt64 b.toInt64 = 0 then some 1 else some 0) (fun r => some (clp r)) := rfl
    have e2 : rkM 6 a b = (if lg_cmp a.toInt64 b.toInt64 = 0 then some 1 else some 0) := rfl
    rw [e1, e2]
    by_cases hz : lg_cmp a.toInt64 b.toInt64 = 0
    · rw [if_pos hz, if_pos hz]
      exact ⟨1, Or.inr rfl, k1, rfl⟩
    · rw [if_neg hz, if_neg hz]
      exact ⟨0, Or.inl rfl, k0, rfl⟩
  · have e1 : rkC 7 a b = bd (if 0 ≤ lg_cmp a.toInt64 b.toInt64 then some 0 else some 1) (fun r => some (clp r)) := rfl
    have e2 : rkM 7 a b = (if 0 ≤ lg_cmp a.toInt64 b.toInt64 then some 0 else some 1) := rfl
    rw [e1, e2]
    by_cases hz : 0 ≤ lg_cmp a.toInt64 b.toInt64
    · rw [if_pos hz, if_pos hz]
      exact ⟨0, Or.inl rfl, k0, rfl⟩
    · rw [if_neg hz, if_neg hz]
      exact ⟨1, Or.inr rfl, k1, rfl⟩
  · have e1 : rkC 8 a b = bd (if lg_cmp a.toInt64 b.toInt64 ≤ 0 then some 0 else some 1) (fun r => some (clp r)) := rfl
    have e2 : rkM 8 a b = (if lg_cmp a.toInt64 b.toInt64 ≤ 0 then some 0 else some 1) := rfl
    rw [e1, e2]
    by_cases hz : lg_cmp a.toInt64 b.toInt64 ≤ 0
    · rw [if_pos hz, if_pos hz]
      exact ⟨0, Or.inl rfl, k0, rfl⟩
    · rw [if_neg hz, if_neg hz]
      exact ⟨1, Or.inr rfl, k1, rfl⟩
theorem rk_bo {c : Nat} (h : c = 10 ∨ c = 11) {a b : Int32} (ha : a = 0 ∨ a = 1) (hb : b = 0 ∨ b = 1) : ∃ v, (v = 0 ∨ v = 1) ∧ rkC c a b = some v ∧ rkM c a b = some v := by
  rcases h with rfl | rfl <;> rcases ha with rfl | rfl <;> rcases hb with rfl | rfl
  · exact ⟨0, Or.inl rfl, by decide, by decide⟩
  · exact ⟨0, Or.inl rfl, by decide, by decide⟩
  · exact ⟨0, Or.inl rfl, by decide, by decide⟩
  · exact ⟨1, Or.inr rfl, by decide, by decide⟩
  · exact ⟨0, Or.inl rfl, by decide, by decide⟩
  · exact ⟨1, Or.inr rfl, by decide, by decide⟩
  · exact ⟨1, Or.inr rfl, by decide, by decide⟩
  · exact ⟨1, Or.inr rfl, by decide, by decide⟩
theorem ok_app {x y : List (Nat × Nat)} {c : Nat} (hx : ∀ o, o ∈ x → okO o) (hy : ∀ o, o ∈ y → okO o) (h2 : 2 ≤ c) (h11 : c ≤ 11) : ∀ o, o ∈ x ++ (y ++ [(c, 0)]) → okO o := fun o ho => by
  rcases List.mem_append.mp ho with q | q
  · exact hx o q
  · rcases List.mem_append.mp q with q | q
    · exact hy o q
    · rw [List.mem_singleton.mp q]
      exact Or.inr (Or.inr ⟨h2, h11⟩)
theorem num_bin {k1 k2 k c : Nat} {x y : List (Nat × Nat)} (hx : Num k1 x) (hy : Num k2 y) (h1 : k1 ≤ k) (h2 : k2 + 1 ≤ k) (hc : 2 ≤ c) (hc5 : c ≤ 5) : Num k (x ++ (y ++ [(c, 0)])) := ⟨ok_app hx.1 hy.1 hc (by omega), fun L cap st hs => by
  obtain ⟨a, a1, a2⟩ := hx.2 L cap st (by omega)
  obtain ⟨b, b1, b2⟩ := hy.2 L cap (a :: st) (by simp; omega)
  obtain ⟨v, v1, v2⟩ := rk_ar hc hc5 a b
  exact ⟨v, by rw [ev_app _ _ _ _ a1, ev_app _ _ _ _ b1, ev_one (ev_bin hc (by omega) v1)], by rw [ev_app _ _ _ _ a2, ev_app _ _ _ _ b2, ev_one (ev_bin hc (by omega) v2)]⟩⟩
theorem boo_cmp {k1 k2 k c : Nat} {x y : List (Nat × Nat)} (hx : Num k1 x) (hy : Num k2 y) (h1 : k1 ≤ k) (h2 : k2 + 1 ≤ k) (hc : 6 ≤ c) (hc8 : c ≤ 8) : Boo k (x ++ (y ++ [(c, 0)])) := ⟨ok_app hx.1 hy.1 (by omega) (by omega), fun L cap st hs => by
  obtain ⟨a, a1, a2⟩ := hx.2 L cap st (by omega)
  obtain ⟨b, b1, b2⟩ := hy.2 L cap (a :: st) (by simp; omega)
  obtain ⟨v, v0, v1, v2⟩ := rk_cm hc hc8 a b
  exact ⟨v, v0, by rw [ev_app _ _ _ _ a1, ev_app _ _ _ _ b1, ev_one (ev_bin (by omega) (by omega) v1)], by rw [ev_app _ _ _ _ a2, ev_app _ _ _ _ b2, ev_one (ev_bin (by omega) (by omega) v2)]⟩⟩
theorem boo_bin {k1 k2 k c : Nat} {x y : List (Nat × Nat)} (hx : Boo k1 x) (hy : Boo k2 y) (h1 : k1 ≤ k) (h2 : k2 + 1 ≤ k) (hc : c = 10 ∨ c = 11) : Boo k (x ++ (y ++ [(c, 0)])) := ⟨ok_app hx.1 hy.1 (by omega) (by omega), fun L cap st hs => by
  obtain ⟨a, a0, a1, a2⟩ := hx.2 L cap st (by omega)
  obtain ⟨b, b0, b1, b2⟩ := hy.2 L cap (a :: st) (by simp; omega)
  obtain ⟨v, v0, v1, v2⟩ := rk_bo hc a0 b0
  exact ⟨v, v0, by rw [ev_app _ _ _ _ a1, ev_app _ _ _ _ b1, ev_one (ev_bin (by omega) (by omega) v1)], by rw [ev_app _ _ _ _ a2, ev_app _ _ _ _ b2, ev_one (ev_bin (by omega) (by omega) v2)]⟩⟩
theorem boo_not {k : Nat} {x : List (Nat × Nat)} (hx : Boo k x) : Boo k (x ++ [(9, 0)]) := ⟨fun o ho => by
  rcases List.mem_append.mp ho with q | q
  · exact hx.1 o q
  · rw [List.mem_singleton.mp q]
    exact Or.inr (Or.inr ⟨by decide, by decide⟩), fun L cap st hs => by
  obtain ⟨a, a0, a1, a2⟩ := hx.2 L cap st (by omega)
  have e : ∀ rk, ev1 rk L cap (9, 0) (a :: st) = some ((1 - a) :: st) := fun rk => by
    unfold ev1
    rw [if_neg (show ¬ (9 : Nat) = 0 by decide), if_neg (show ¬ (9 : Nat) = 1 by decide), if_pos rfl]
  refine ⟨1 - a, ?_, by rw [ev_app _ _ _ _ a1, ev_one (e _)], by rw [ev_app _ _ _ _ a2, ev_one (e _)]⟩
  rcases a0 with rfl | rfl
  · exact Or.inr (by decide)
  · exact Or.inl (by decide)⟩
theorem boo_ne {k : Nat} {x : List (Nat × Nat)} (hx : Boo k x) : 0 < x.length := by
  cases x with
  | nil =>
    obtain ⟨v, _, h, _⟩ := hx.2 (fun _ => 0) k [] (by simp)
    cases h
  | cons a l => simp
/-! the two machines at such steps -/
def stk (f : Nat → Int32) : List Int32 → Prop
  | [] => True
  | x :: r => f r.length = x ∧ stk f r
theorem stk_c {f g : Nat → Int32} : ∀ (st : List Int32), (∀ i, i < st.length → g i = f i) → stk f st → stk g st
  | [], _, _ => trivial
  | x :: r, h, hs => ⟨(h r.length (by simp)).trans hs.1, stk_c r (fun i hi => h i (by simp; omega)) hs.2⟩
theorem stN_bd {o : Nat × Nat} (h : okO o) : stN o < 10020 ∧ (o.1 ≤ 1 → stN o < 10010) ∧ (2 ≤ o.1 → o.1 ≠ 9 → 10010 ≤ stN o ∧ stN o < 10019 ∧ stN o = stN (o.1, 0)) ∧ (o.1 = 9 → stN o = 10019) := by
  unfold stN
  rcases h with ⟨h1, h2⟩ | ⟨h1, h2⟩ | ⟨h1, h2⟩
  · simp [h1]
    omega
  · simp [h1]
    omega
  · have e0 : ¬ o.1 = 0 := by omega
    have e1 : ¬ o.1 = 1 := by omega
    rcases (by omega : o.1 = 9 ∨ o.1 = 10 ∨ o.1 = 11 ∨ (o.1 ≤ 8)) with q | q | q | q
    · simp [q]
    · simp [q]
    · simp [q]
    · have e9 : ¬ o.1 = 9 := by omega
      have e10 : ¬ o.1 = 10 := by omega
      have e11 : ¬ o.1 = 11 := by omega
      refine ⟨?_, fun z => by omega, fun _ _ => ⟨?_, ?_, ?_⟩, fun z => absurd z e9⟩
      · simp only [e0, e1, e9, e10, e11, if_false]
        omega
      · simp only [e0, e1, e9, e10, e11, if_false]
        omega
      · simp only [e0, e1, e9, e10, e11, if_false]
        omega
      · rw [if_neg e0, if_neg e1, if_neg e9, if_neg e10, if_neg e11, if_neg e0, if_neg e1]
