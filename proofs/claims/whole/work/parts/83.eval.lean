/-! laws reckoned by both -/
theorem clp_eq {N c : Nat} {a b v : Int32} (h : rkC c a b = some v) : ∃ r, fX2_reckon N (nI (stN (c, 0))) a.toInt64 b.toInt64 = some r ∧ clp r = v := by
  obtain ⟨r, h1, h2⟩ := bd_e h
  exact ⟨r, h1, Option.some.inj h2⟩
theorem stk_push {f : Nat → Int32} {st : List Int32} {v : Int32} (h : stk f st) : stk (upd f st.length v) (v :: st) := ⟨pk_us, stk_c st (fun i hi => pk_un (by omega)) h⟩
theorem c_op {N q len p f : Nat} {L : Nat → Int32} {o : Nat × Nat} {st st' : List Int32} {S : SS} (hq : 48 ≤ q) (hl : aln S.2.2 q = len) (hlen : len ≤ 1000) (hp : p < len) (ho : okO o) (hs : S.1 q p = stI o) (he : ev1 rkC L 64 o st = some st') (hk : stk (S.1 17) st) (h64 : st.length ≤ 64) (hL : ∀ j, j < 6 → S.1 16 j = L j) : ∃ S2, fX2_worth_l4 N q (f + 1) (nI st.length) (nI p) S = fX2_worth_l4 N q f (nI st'.length) (nI (p + 1)) S2 ∧ Fr [17] S S2 ∧ stk (S2.1 17) st' ∧ st'.length ≤ 64 := by
  have hb := stN_bd ho
  have e0 : fX2_worth_l4 N q (f + 1) (nI st.length) (nI p) S = (if nI len ≤ nI p then some (S, 0) else ck (inb (nI p) len) <| lt (ga S q (nI p)) fun v3 => if 10010 ≤ v3 then (if 10019 ≤ v3 then (if 1 ≤ nI st.length then (if v3 = 10019 then (ck (inb (nI st.length - 1) 64) <| ck (inb (nI st.length - 1) 64) <| lt (pa S 17 (nI st.length - 1) (1 - (ga S 17 (nI st.length - 1)))) fun S18 => lt (nI p + 1) fun v19 => fX2_worth_l4 N q f (nI st.length) v19 S18) else (if v3 = 10020 then (ck (inb (nI st.length - 1) 64) <| some (S, ga S 17 (nI st.length - 1))) else (lt (nI st.length + (-1)) fun v9 => ck (inb v9 64) <| if (ga S 17 v9) = 0 then (lt (mx (nI p) ((v3 - 20000) - 1)) fun v13 => lt (v13 + 1) fun v14 => fX2_worth_l4 N q f v9 v14 S) else (lt (nI p + 1) fun v12 => fX2_worth_l4 N q f v9 v12 S)))) else some (S, 0)) else (if 2 ≤ nI st.length then (lt (nI st.length + (-1)) fun v21 => ck (inb (v21 - 1) 64) <| ck (inb v21 64) <| bd (fX2_reckon N v3 ((ga S 17 (v21 - 1) : Int32).toInt64) ((ga S 17 v21 : Int32).toInt64)) fun r25 => ck (inb (v21 - 1) 64) <| lt (pa S 17 (v21 - 1) (clp r25)) fun S27 => lt (nI p + 1) fun v28 => fX2_worth_l4 N q f v21 v28 S27) else some (S, 0))) else (if nI st.length < 64 then (bd (fX2_valueOf N S v3) fun r31 => ck (inb (nI st.length) 64) <| lt (pa S 17 (nI st.length) r31) fun S33 => lt (nI st.length + 1) fun v34 => lt (nI p + 1) fun v35 => fX2_worth_l4 N q f v34 v35 S33) else some (S, 0))) := by
    rw [← hl]
    rfl
  rw [e0, if_neg (nI_ge hp (by omega)), ck_in hp (by omega), lt_s9, ga_nI (by omega), hs]
  rw [show stI o = nI (stN o) from rfl]
  rcases ho with ⟨o1, o2⟩ | ⟨o1, o2⟩ | ⟨o1, o2⟩
  · -- a number
    have hst : st.length < 64 ∧ st' = nI o.2 :: st := by
      unfold ev1 at he
      rw [if_pos o1] at he
      split at he
      · rename_i q
        exact ⟨q, (Option.some.inj he).symm⟩
      · cases he
    have e1 : stN o = o.2 := by
      unfold stN
      rw [if_pos o1]
    have hv : fX2_valueOf N S (nI (stN o)) = some (nI o.2) := by
      unfold fX2_valueOf
      rw [lt_s9, e1, if_pos (show nI o.2 - 10000 < 0 from pk_sneg (b := 10000) (by omega) (by omega))]
    rw [if_neg (show ¬ (10010 : Int32) ≤ nI (stN o) from nI_ge (b := 10010) (hb.2.1 (by omega)) (by omega)), if_pos (show nI st.length < 64 from nI_lt (b := 64) hst.1 (by omega)), bd_s hv, ck_in hst.1 (by omega)]
    simp only [lt_s9, nI_1]
    refine ⟨pa S 17 (nI st.length) (nI o.2), by rw [hst.2, List.length_cons], Fr.pa (by decide), ?_, by rw [hst.2]; simp; omega⟩
    rw [row_pa, if_pos rfl, nI_clamp (by omega), hst.2]
    exact stk_push hk
  · have hst : st.length < 64 ∧ st' = L o.2 :: st := by
      unfold ev1 at he
      rw [if_neg (by omega), if_pos o1] at he
      split at he
      · rename_i q
        exact ⟨q, (Option.some.inj he).symm⟩
      · cases he
    have e1 : stN o = 10000 + o.2 := by
      unfold stN
      rw [if_neg (by omega), if_pos o1]
    have hv : fX2_valueOf N S (nI (stN o)) = some (L o.2) := by
      unfold fX2_valueOf
      have e2 : nI (stN o) - 10000 = nI o.2 := by
        show nI (stN o) - nI 10000 = _
        rw [e1, pk_sub (by omega), show 10000 + o.2 - 10000 = o.2 by omega]
      rw [lt_s9, e2, if_neg (nI_pos (by omega)), if_neg (show ¬ (6 : Int32) ≤ nI o.2 from nI_ge (b := 6) o2 (by omega)), ck_in o2 (by omega), ga_nI (by omega), hL _ o2]
    rw [if_neg (show ¬ (10010 : Int32) ≤ nI (stN o) from nI_ge (b := 10010) (hb.2.1 (by omega)) (by omega)), if_pos (show nI st.length < 64 from nI_lt (b := 64) hst.1 (by omega)), bd_s hv, ck_in hst.1 (by omega)]
    simp only [lt_s9, nI_1]
    refine ⟨pa S 17 (nI st.length) (L o.2), by rw [hst.2, List.length_cons], Fr.pa (by decide), ?_, by rw [hst.2]; simp; omega⟩
    rw [row_pa, if_pos rfl, nI_clamp (by omega), hst.2]
    exact stk_push hk
  · by_cases o9 : o.1 = 9
    · have e1 := hb.2.2.2 o9
      unfold ev1 at he
      rw [if_neg (by omega), if_neg (by omega), if_pos o9] at he
      cases st with
      | nil => cases he
      | cons x s =>
        have he' : st' = (1 - x) :: s := (Option.some.inj he).symm
        have hs64 : s.length < 64 := by
          simp at h64
          omega
        have es : nI (x :: s).length - 1 = nI s.length := nI_pred s.length
        rw [if_pos (show (10010 : Int32) ≤ nI (stN o) from nI_le (a := 10010) (by omega) (by omega)), if_pos (show (10019 : Int32) ≤ nI (stN o) from nI_le (a := 10019) (by omega) (by omega)), if_pos (show (1 : Int32) ≤ nI (x :: s).length from nI_le (a := 1) (by simp) (by simp; omega)), if_pos (show nI (stN o) = 10019 by rw [e1]; rfl), es, ck_in hs64 (by omega), ck_in hs64 (by omega), ga_nI (by omega), hk.1]
        simp only [lt_s9, nI_1]
        refine ⟨pa S 17 (nI s.length) (1 - x), by rw [he', List.length_cons, List.length_cons], Fr.pa (by decide), ?_, by rw [he']; simpa using h64⟩
        rw [row_pa, if_pos rfl, nI_clamp (by omega), he']
        exact stk_push hk.2
    · have e1 := hb.2.2.1 o1 o9
      unfold ev1 at he
      rw [if_neg (by omega), if_neg (by omega), if_neg o9] at he
      match st, he, hk, h64 with
      | [], he, _, _ => cases he
      | [_], he, _, _ => cases he
      | b :: a :: s, he, hk, h64 =>
        obtain ⟨v, hv, he'⟩ : ∃ v, rkC o.1 a b = some v ∧ st' = v :: s := by
          have he2 : (rkC o.1 a b).map (fun v => v :: s) = some st' := he
          cases hq : rkC o.1 a b with
          | none =>
            rw [hq] at he2
            cases he2
          | some v =>
            rw [hq] at he2
            exact ⟨v, rfl, (Option.some.inj he2).symm⟩
        obtain ⟨r, hr1, hr2⟩ := clp_eq (N := N) hv
        have hs64 : s.length + 1 < 64 := by
          simp at h64
          omega
        have es : nI (b :: a :: s).length + (-1) = nI (s.length + 1) := pk_m1 (s.length + 1)
        have es2 : nI (s.length + 1) - 1 = nI s.length := nI_pred s.length
        rw [if_pos (show (10010 : Int32) ≤ nI (stN o) from nI_le (a := 10010) (by omega) (by omega)), if_neg (show ¬ (10019 : Int32) ≤ nI (stN o) from nI_ge (b := 10019) (by omega) (by omega)), if_pos (show (2 : Int32) ≤ nI (b :: a :: s).length from nI_le (a := 2) (by simp) (by simp; omega)), lt_s9, es, es2, ck_in (by omega) (by omega), ck_in (by omega) (by omega), ga_nI (by omega), ga_nI (by omega), hk.2.1, show S.1 17 (s.length + 1) = b from hk.1, e1.2.2, bd_s hr1, ck_in (by omega) (by omega), hr2]
        simp only [lt_s9, nI_1]
        refine ⟨pa S 17 (nI s.length) v, by rw [he', List.length_cons], Fr.pa (by decide), ?_, by rw [he']; simp; omega⟩
        rw [row_pa, if_pos rfl, nI_clamp (by omega), he']
        exact stk_push hk.2.2
theorem c_ops {N q len : Nat} {L : Nat → Int32} (hq : 48 ≤ q) (hlen : len ≤ 1000) : ∀ (ops : List (Nat × Nat)) (p f : Nat) (st st' : List Int32) (S : SS), aln S.2.2 q = len → p + ops.length ≤ len → (∀ o, o ∈ ops → okO o) → (∀ j o, ops[j]? = some o → S.1 q (p + j) = stI o) → ev rkC L 64 ops st = some st' → stk (S.1 17) st → st.length ≤ 64 → (∀ j, j < 6 → S.1 16 j = L j) → ∃ S2, fX2_worth_l4 N q (f + ops.length) (nI st.length) (nI p) S = fX2_worth_l4 N q f (nI st'.length) (nI (p + ops.length)) S2 ∧ Fr [17] S S2 ∧ stk (S2.1 17) st'
  | [], p, f, st, st', S, _, _, _, _, he, hk, _, _ => by
    cases he
    exact ⟨S, rfl, Fr.rf, hk⟩
  | o :: r, p, f, st, st', S, hl, hp, ho, hs, he, hk, h64, hL => by
    rw [List.length_cons] at hp
    unfold ev at he
    cases h1 : ev1 rkC L 64 o st with
    | none =>
      rw [h1] at he
      cases he
    | some s1 =>
      rw [h1] at he
      obtain ⟨S1, z1, z2, z3, z4⟩ := c_op (N := N) (p := p) (len := len) (f := f + r.length) hq hl hlen (by omega) (ho o (List.mem_cons_self ..)) (by have q := hs 0 o rfl; rw [Nat.add_zero] at q; exact q) h1 hk h64 hL
      have hq17 : S1.1 q = S.1 q := z2.row (by simp; omega)
      obtain ⟨S2, y1, y2, y3⟩ := c_ops (N := N) (L := L) hq hlen r (p + 1) f s1 st' S1 (by rw [z2.2]; exact hl) (by omega) (fun x hx => ho x (List.mem_cons_of_mem _ hx)) (fun j x hx => by
        rw [hq17, show p + 1 + j = p + (j + 1) by omega]
        exact hs (j + 1) x hx) he z3 z4 (fun j hj => by rw [z2.row (by decide)]; exact hL j hj)
      refine ⟨S2, ?_, z2.tr y2, y3⟩
      rw [List.length_cons, show f + (r.length + 1) = f + r.length + 1 by omega, z1, y1, show p + 1 + r.length = p + (r.length + 1) by omega]
theorem m_op {N t q to f : Nat} {L : Nat → Int32} {o : Nat × Nat} {st st' : List Int32} {T : SS} (ht : t ≤ 4) (hto : to ≤ 500) (hqt : q < to) (ho : okO o) (hs1 : T.1 54 (520 * t + q) = nI o.1) (hs2 : T.1 55 (520 * t + q) = nI o.2) (he : ev1 rkM L 64 o st = some st') (hk : stk (T.1 62) st) (h64 : st.length ≤ 64) (hL : ∀ j, j < 6 → T.1 61 j = L j) : ∃ T2, fX12_workOut_l12 N (f + 1) (nI t) (nI to) (nI st.length) (nI (520 * t + q)) T = fX12_workOut_l12 N f (nI t) (nI to) (nI st'.length) (nI (520 * t + (q + 1))) T2 ∧ Fr [62] T T2 ∧ stk (T2.1 62) st' ∧ st'.length ≤ 64 := by
  have hB : 520 * t + q < 2600 := by omega
  have g54 : ga T 54 (nI (520 * t + q)) = nI o.1 := by
    rw [ga_nI (by omega)]
    exact hs1
  have g55 : ga T 55 (nI (520 * t + q)) = nI o.2 := by
    rw [ga_nI (by omega)]
    exact hs2
  have ek : (520 : Int32) * nI t + nI to = nI (520 * t + to) := k520 t to
  have e0 : fX12_workOut_l12 N (f + 1) (nI t) (nI to) (nI st.length) (nI (520 * t + q)) T = (if ((520 * nI t) + nI to) ≤ nI (520 * t + q) then (some (T, ga T 62 0)) else (ck (inb (nI (520 * t + q)) 2600) <| if (ga T 54 (nI (520 * t + q))) = 0 then (fX12_workOut_j45 N (fX12_workOut_l12 N f) (nI t) (nI to) (nI st.length) (nI (520 * t + q)) T) else (ck (inb (nI (520 * t + q)) 2600) <| if (ga T 54 (nI (520 * t + q))) = 1 then (fX12_workOut_j45 N (fX12_workOut_l12 N f) (nI t) (nI to) (nI st.length) (nI (520 * t + q)) T) else (ck (inb (nI (520 * t + q)) 2600) <| if (ga T 54 (nI (520 * t + q))) = 9 then (ck (inb (nI st.length - 1) 80) <| ck (inb (nI st.length - 1) 80) <| lt (pa T 62 (nI st.length - 1) (1 - (ga T 62 (nI st.length - 1)))) fun T19 => lt (nI (520 * t + q) + 1) fun v20 => fX12_workOut_l12 N f (nI t) (nI to) (nI st.length) v20 T19) else (lt (nI st.length + (-1)) fun v8 => ck (inb (nI (520 * t + q)) 2600) <| ck (inb (v8 - 1) 80) <| ck (inb v8 80) <| bd (fX12_worked N (ga T 54 (nI (520 * t + q))) ((ga T 62 (v8 - 1) : Int32).toInt64) ((ga T 62 v8 : Int32).toInt64)) fun r13 => ck (inb (v8 - 1) 80) <| lt (pa T 62 (v8 - 1) r13) fun T15 => lt (nI (520 * t + q) + 1) fun v16 => fX12_workOut_l12 N f (nI t) (nI to) v8 v16 T15))))) := rfl
  rw [e0]
  clear e0
  unfold fX12_workOut_j45
  rw [ek, if_neg (nI_ge (by omega) (by omega)), g54, g55]
  simp (disch := omega) only [ck_in]
  rcases ho with ⟨o1, o2⟩ | ⟨o1, o2⟩ | ⟨o1, o2⟩
  · have hst : st.length < 64 ∧ st' = nI o.2 :: st := by
      unfold ev1 at he
      rw [if_pos o1] at he
      split at he
      · rename_i q
        exact ⟨q, (Option.some.inj he).symm⟩
      · cases he
    rw [if_pos (show nI o.1 = 0 by rw [o1]; rfl), if_pos (show nI o.1 = 0 by rw [o1]; rfl)]
    simp (disch := omega) only [ck_in, lt_s9, nI_1]
    refine ⟨pa T 62 (nI st.length) (nI o.2), by rw [hst.2, List.length_cons, Nat.add_assoc], Fr.pa (by decide), ?_, by rw [hst.2]; simp; omega⟩
    rw [row_pa, if_pos rfl, nI_clamp (by omega), hst.2]
    exact stk_push hk
  · have hst : st.length < 64 ∧ st' = L o.2 :: st := by
      unfold ev1 at he
      rw [if_neg (by omega), if_pos o1] at he
      split at he
      · rename_i q
        exact ⟨q, (Option.some.inj he).symm⟩
      · cases he
    rw [if_neg (show ¬ nI o.1 = 0 by rw [o1]; decide), if_pos (show nI o.1 = 1 by rw [o1]; rfl), if_neg (show ¬ nI o.1 = 0 by rw [o1]; decide)]
    simp (disch := omega) only [ck_in, lt_s9, nI_1]
    rw [ga_nI (by omega), hL _ o2]
    refine ⟨pa T 62 (nI st.length) (L o.2), by rw [hst.2, List.length_cons, Nat.add_assoc], Fr.pa (by decide), ?_, by rw [hst.2]; simp; omega⟩
    rw [row_pa, if_pos rfl, nI_clamp (by omega), hst.2]
    exact stk_push hk
  · have n0 : ¬ nI o.1 = 0 := nI_ne0 (by omega) (by omega)
    have n1 : ¬ nI o.1 = 1 := fun z => by
      have := (nI_eq (b := 1) (by omega) (by omega)).mp z
      omega
    rw [if_neg n0, if_neg n1]
    by_cases o9 : o.1 = 9
    · unfold ev1 at he
      rw [if_neg (by omega), if_neg (by omega), if_pos o9] at he
      cases st with
      | nil => cases he
      | cons x s =>
        have he' : st' = (1 - x) :: s := (Option.some.inj he).symm
        have hs64 : s.length < 64 := by
          simp at h64
          omega
        have es : nI (x :: s).length - 1 = nI s.length := nI_pred s.length
        rw [if_pos (show nI o.1 = 9 by rw [o9]; rfl), es, ck_in (show s.length < 80 by omega) (by omega), ck_in (show s.length < 80 by omega) (by omega), ga_nI (by omega), hk.1]
        simp only [lt_s9, nI_1]
        refine ⟨pa T 62 (nI s.length) (1 - x), by rw [he', List.length_cons, List.length_cons, Nat.add_assoc], Fr.pa (by decide), ?_, by rw [he']; simpa using h64⟩
        rw [row_pa, if_pos rfl, nI_clamp (by omega), he']
        exact stk_push hk.2
    · have n9 : ¬ nI o.1 = 9 := fun z => o9 ((nI_eq (b := 9) (by omega) (by omega)).mp z)
      unfold ev1 at he
      rw [if_neg (by omega), if_neg (by omega), if_neg o9] at he
      match st, he, hk, h64 with
      | [], he, _, _ => cases he
      | [_], he, _, _ => cases he
      | b :: a :: s, he, hk, h64 =>
        obtain ⟨v, hv, he'⟩ : ∃ v, rkM o.1 a b = some v ∧ st' = v :: s := by
          have he2 : (rkM o.1 a b).map (fun v => v :: s) = some st' := he
          cases hq : rkM o.1 a b with
          | none =>
            rw [hq] at he2
            cases he2
          | some v =>
            rw [hq] at he2
            exact ⟨v, rfl, (Option.some.inj he2).symm⟩
        have hv' : fX12_worked N (nI o.1) a.toInt64 b.toInt64 = some v := hv
        have hs64 : s.length + 1 < 64 := by
          simp at h64
          omega
        have es : nI (b :: a :: s).length + (-1) = nI (s.length + 1) := pk_m1 (s.length + 1)
        have es2 : nI (s.length + 1) - 1 = nI s.length := nI_pred s.length
        rw [if_neg n9, lt_s9, es, es2, ck_in (show s.length < 80 by omega) (by omega), ck_in (show s.length + 1 < 80 by omega) (by omega), ga_nI (show s.length < 2 ^ 31 by omega), ga_nI (show s.length + 1 < 2 ^ 31 by omega), hk.2.1, show T.1 62 (s.length + 1) = b from hk.1, bd_s hv', ck_in (show s.length < 80 by omega) (by omega)]
        simp only [lt_s9, nI_1]
        refine ⟨pa T 62 (nI s.length) v, by rw [he', List.length_cons, Nat.add_assoc], Fr.pa (by decide), ?_, by rw [he']; simp; omega⟩
        rw [row_pa, if_pos rfl, nI_clamp (by omega), he']
        exact stk_push hk.2.2
theorem m_ops {N t to : Nat} {L : Nat → Int32} (ht : t ≤ 4) (hto : to ≤ 500) : ∀ (ops : List (Nat × Nat)) (q f : Nat) (st st' : List Int32) (T : SS), q + ops.length ≤ to → (∀ o, o ∈ ops → okO o) → (∀ j o, ops[j]? = some o → T.1 54 (520 * t + (q + j)) = nI o.1 ∧ T.1 55 (520 * t + (q + j)) = nI o.2) → ev rkM L 64 ops st = some st' → stk (T.1 62) st → st.length ≤ 64 → (∀ j, j < 6 → T.1 61 j = L j) → ∃ T2, fX12_workOut_l12 N (f + ops.length) (nI t) (nI to) (nI st.length) (nI (520 * t + q)) T = fX12_workOut_l12 N f (nI t) (nI to) (nI st'.length) (nI (520 * t + (q + ops.length))) T2 ∧ Fr [62] T T2 ∧ stk (T2.1 62) st'
  | [], q, f, st, st', T, _, _, _, he, hk, _, _ => by
    cases he
    exact ⟨T, rfl, Fr.rf, hk⟩
  | o :: r, q, f, st, st', T, hp, ho, hs, he, hk, h64, hL => by
    rw [List.length_cons] at hp
    unfold ev at he
    cases h1 : ev1 rkM L 64 o st with
    | none =>
      rw [h1] at he
      cases he
    | some s1 =>
      rw [h1] at he
      have h0 := hs 0 o rfl
      rw [Nat.add_zero] at h0
      obtain ⟨T1, z1, z2, z3, z4⟩ := m_op (N := N) (f := f + r.length) (to := to) ht hto (by omega) (ho o (List.mem_cons_self ..)) h0.1 h0.2 h1 hk h64 hL
      obtain ⟨T2, y1, y2, y3⟩ := m_ops (N := N) (L := L) ht hto r (q + 1) f s1 st' T1 (by omega) (fun x hx => ho x (List.mem_cons_of_mem _ hx)) (fun j x hx => by
        rw [z2.row (k := 54) (by decide), z2.row (k := 55) (by decide), show q + 1 + j = q + (j + 1) by omega]
        exact hs (j + 1) x hx) he z3 z4 (fun j hj => by rw [z2.row (by decide)]; exact hL j hj)
      refine ⟨T2, ?_, z2.tr y2, y3⟩
      rw [List.length_cons, show f + (r.length + 1) = f + r.length + 1 by omega, z1, y1, show q + 1 + r.length = q + (r.length + 1) by omega]
/-- a sum or a condition worked out by the reference -/
theorem m_work {N t q to : Nat} {L : Nat → Int32} {ops : List (Nat × Nat)} {v : Int32} {T : SS} (hN : 600 ≤ N) (ht : t ≤ 4) (hto : to ≤ 500) (hq : q + ops.length = to) (ho : ∀ o, o ∈ ops → okO o) (hs : ∀ j o, ops[j]? = some o → T.1 54 (520 * t + (q + j)) = nI o.1 ∧ T.1 55 (520 * t + (q + j)) = nI o.2) (he : ev rkM L 64 ops [] = some [v]) (hL : ∀ j, j < 6 → T.1 61 j = L j) : ∃ T2, fX12_workOut N T (nI t) (nI q) (nI to) = some (T2, v) ∧ Fr [62] T T2 := by
  obtain ⟨M, rfl⟩ : ∃ M, N = M + 1 + ops.length := ⟨N - 1 - ops.length, by omega⟩
  obtain ⟨T2, z1, z2, z3⟩ := m_ops (N := M + 1 + ops.length) (L := L) ht hto ops q (M + 1) [] [v] T (by omega) ho hs he trivial (by simp) hL
  unfold fX12_workOut
  rw [lt_s9, k520]
  have z1' : fX12_workOut_l12 (M + 1 + ops.length) (M + 1 + ops.length) (nI t) (nI to) 0 (nI (520 * t + q)) T = _ := z1
  rw [z1']
  unfold fX12_workOut_l12
  rw [k520, if_pos (nI_le (by omega) (by omega))]
  refine ⟨T2, ?_, z2⟩
  have : ga T2 62 0 = v := z3.1
  rw [this]
