/-! laws: what they are worth, both ways -/
theorem get_app1 {α : Type} {x y : List α} {j : Nat} {o : α} (h : x[j]? = some o) : (x ++ y)[j]? = some o := by
  have hj : j < x.length := (List.getElem?_eq_some_iff.mp h).1
  rw [List.getElem?_append_left hj]
  exact h
theorem get_app2 {α : Type} {x y : List α} {j : Nat} {o : α} (h : y[j]? = some o) : (x ++ y)[x.length + j]? = some o := by
  rw [List.getElem?_append_right (by omega), show x.length + j - x.length = j by omega]
  exact h
theorem get_map {x : List (Nat × Nat)} {j : Nat} {o : Nat × Nat} (h : x[j]? = some o) : (x.map stI)[j]? = some (stI o) := by
  rw [List.getElem?_map, h]
  rfl
/-- DONE -/
theorem c_done {N q len p f : Nat} {v : Int32} {S : SS} (hl : aln S.2.2 q = len) (hlen : len ≤ 1000) (hp : p < len) (hs : S.1 q p = 10020) (hk : S.1 17 0 = v) : fX2_worth_l4 N q (f + 1) (nI 1) (nI p) S = some (S, v) := by
  unfold fX2_worth_l4
  have e1 : Int32.ofNat (aln S.2.2 q) = nI len := by rw [hl]; rfl
  rw [e1, if_neg (nI_ge hp (by omega)), hl, ck_in hp (by omega), lt_s9, ga_nI (by omega), hs, if_pos (by decide), if_pos (by decide), if_pos (by decide), if_neg (by decide), if_pos rfl]
  have e2 : nI 1 - 1 = nI 0 := rfl
  rw [e2, ck_in (by omega) (by omega), ga_nI (by omega), hk]
/-- JUMP -/
theorem c_jump {N q len p f x : Nat} {S : SS} (hl : aln S.2.2 q = len) (hlen : len ≤ 1000) (hp : p < len) (hx : p < x) (hx2 : x ≤ len) (hs : S.1 q p = nI (20000 + x)) : fX2_worth_l4 N q (f + 1) (nI 1) (nI p) S = if S.1 17 0 = 0 then fX2_worth_l4 N q f (nI 0) (nI x) S else fX2_worth_l4 N q f (nI 0) (nI (p + 1)) S := by
  show (if Int32.ofNat (aln S.2.2 q) ≤ nI p then _ else _) = _
  have e1 : Int32.ofNat (aln S.2.2 q) = nI len := by rw [hl]; rfl
  have e2 : nI 1 + (-1) = nI 0 := by decide
  have e3 : nI (20000 + x) - 20000 - 1 = nI (x - 1) := by
    show nI (20000 + x) - nI 20000 - nI 1 = _
    rw [pk_sub (by omega), pk_sub (by omega), show 20000 + x - 20000 - 1 = x - 1 by omega]
  have e4 : mx (nI p) (nI (x - 1)) = nI (x - 1) := by
    show (if nI p < nI (x - 1) then nI (x - 1) else nI p) = _
    by_cases q : p < x - 1
    · rw [if_pos (nI_lt q (by omega))]
    · rw [if_neg (nI_nlt (by omega) (by omega)), show p = x - 1 by omega]
  have n1 : ¬ nI (20000 + x) = 10019 := fun z => by
    have := (nI_eq (b := 10019) (by omega) (by omega)).mp z
    omega
  have n2 : ¬ nI (20000 + x) = 10020 := fun z => by
    have := (nI_eq (b := 10020) (by omega) (by omega)).mp z
    omega
  rw [e1, if_neg (nI_ge hp (by omega)), hl, ck_in hp (by omega), lt_s9, ga_nI (by omega), hs, if_pos (show (10010 : Int32) ≤ nI (20000 + x) from nI_le (a := 10010) (by omega) (by omega)), if_pos (show (10019 : Int32) ≤ nI (20000 + x) from nI_le (a := 10019) (by omega) (by omega)), if_pos (by decide), if_neg n1, if_neg n2, lt_s9, e2, ck_in (by omega) (by omega), ga_nI (by omega), e3, e4]
  simp only [lt_s9, nI_1]
  rw [show x - 1 + 1 = x by omega]
theorem w_law {N q t len m : Nat} {L : Nat → Int32} (hN : 600 ≤ N) (hq : 48 ≤ q) (hlen : len ≤ 240) (ht : t ≤ 4) (hm : m ≤ 139) : ∀ (cs : List (List (Nat × Nat) × List (Nat × Nat))) (p k o f f2 : Nat) (S T : SS), aln S.2.2 q = len → p + (psC p cs).length = len → (∀ j x, (psC p cs)[j]? = some x → S.1 q (p + j) = x) → (∀ j x, (cdF cs)[j]? = some x → T.1 54 (520 * t + (o + j)) = nI x.1 ∧ T.1 55 (520 * t + (o + j)) = nI x.2) → o + (cdF cs).length ≤ 500 → rwM T t k o cs → k + cs.length = m → T.1 57 t = nI m → gdC cs → (∀ j, j < 6 → S.1 16 j = L j) → (∀ j, j < 6 → T.1 61 j = L j) → (psC p cs).length < f → cs.length < f2 → ∃ v S2 T2, fX2_worth_l4 N q f (nI 0) (nI p) S = some (S2, v) ∧ fX12_worthOf_l6 N f2 (nI t) (nI (140 * t + k)) T = some (T2, v) ∧ Fr [17] S S2 ∧ Fr [62] T T2
  | [], p, k, o, f, f2, S, T, hl, hpl, hc, hd, hoc, hr, hkm, h57, hg, hL, hL2, hf, hf2 => by
    obtain ⟨f, rfl⟩ : ∃ y, f = y + 1 := ⟨f - 1, by omega⟩
    obtain ⟨f2, rfl⟩ : ∃ y, f2 = y + 1 := ⟨f2 - 1, by omega⟩
    have hp : p = len := by
      have : (psC p []).length = 0 := rfl
      omega
    have hk : k = m := by
      have : ([] : List (List (Nat × Nat) × List (Nat × Nat))).length = 0 := rfl
      omega
    have e57 : ga T 57 (nI t) = nI m := by
      rw [ga_nI (by omega)]
      exact h57
    have ek : (140 : Int32) * nI t + nI m = nI (140 * t + m) := by
      show nI 140 * nI t + nI m = _
      rw [pk_mul, nI_add]
    have e1 : Int32.ofNat (aln S.2.2 q) = nI len := by rw [hl]; rfl
    unfold fX2_worth_l4 fX12_worthOf_l6
    rw [e1, if_pos (nI_le (by omega) (by omega)), ck_in (by omega) (by omega), e57, ek, if_pos (nI_le (by omega) (by omega))]
    exact ⟨0, S, T, rfl, rfl, Fr.rf, Fr.rf⟩
  | (c, s) :: r, p, k, o, f, f2, S, T, hl, hpl, hc, hd, hoc, hr, hkm, h57, hg, hL, hL2, hf, hf2 => by
    obtain ⟨f2, rfl⟩ : ∃ y, f2 = y + 1 := ⟨f2 - 1, by omega⟩
    obtain ⟨r1, r2, r3, r4⟩ := hr
    obtain ⟨g1, g2⟩ := hg (c, s) (List.mem_cons_self ..)
    have g1' : c.length = 0 ∨ Boo 18 c := g1
    have g2' : Num 15 s := g2
    have r1' : T.1 58 (140 * t + k) = nI o := r1
    have r2' : T.1 59 (140 * t + k) = nI (o + c.length) := r2
    have r3' : T.1 60 (140 * t + k) = nI (o + c.length + s.length) := r3
    have ecd : cdF ((c, s) :: r) = (c ++ s) ++ cdF r := rfl
    have eps : psC p ((c, s) :: r) = cst p c s ++ psC (p + (cst p c s).length) r := rfl
    have hcl : ((c, s) :: r).length = r.length + 1 := List.length_cons
    rw [ecd] at hd hoc
    rw [eps] at hpl hc hf
    rw [List.length_append, List.length_append] at hoc
    rw [List.length_append] at hpl hf
    have e57 : ga T 57 (nI t) = nI m := by
      rw [ga_nI (by omega)]
      exact h57
    have ek : (140 : Int32) * nI t + nI m = nI (140 * t + m) := by
      show nI 140 * nI t + nI m = _
      rw [pk_mul, nI_add]
    have kB : 140 * t + k < 700 := by omega
    have g58 : ga T 58 (nI (140 * t + k)) = nI o := by
      rw [ga_nI (by omega)]
      exact r1'
    have g59 : ga T 59 (nI (140 * t + k)) = nI (o + c.length) := by
      rw [ga_nI (by omega)]
      exact r2'
    have g60 : ∀ T' : SS, Fr [62] T T' → ga T' 59 (nI (140 * t + k)) = nI (o + c.length) ∧ ga T' 60 (nI (140 * t + k)) = nI (o + c.length + s.length) := fun T' fT => by
      rw [ga_nI (by omega), ga_nI (by omega), fT.row (k := 59) (by decide), fT.row (k := 60) (by decide)]
      exact ⟨r2', r3'⟩
    obtain ⟨vs, vs1, vs2⟩ := g2'.2 L 64 [] (by simp)
    -- the sum, in the reference
    have sumM : ∀ T' : SS, Fr [62] T T' → ∃ T2, fX12_worthOf_j57 N (nI t) (nI (140 * t + k)) T' = some (T2, vs) ∧ Fr [62] T T2 := fun T' fT => by
      obtain ⟨T2, z1, z2⟩ := m_work (N := N) (t := t) (q := o + c.length) (to := o + c.length + s.length) (L := L) (ops := s) (v := vs) (T := T') hN ht (by omega) rfl g2'.1 (fun j x hx => by
        rw [fT.row (k := 54) (by decide), fT.row (k := 55) (by decide), show o + c.length + j = o + (c.length + j) by omega]
        exact hd (c.length + j) x (get_app1 (get_app2 hx))) vs2 (fun j hj => by rw [fT.row (by decide)]; exact hL2 j hj)
      unfold fX12_worthOf_j57
      rw [ck_in kB (by omega), ck_in kB (by omega), (g60 T' fT).1, (g60 T' fT).2, b2_s z1]
      exact ⟨T2, rfl, fT.tr z2⟩
    -- the sum, in the class, from a place on
    have sumC : ∀ (S' : SS) (p' f' : Nat), Fr [17] S S' → (∀ j x, (s.map stI ++ [10020])[j]? = some x → S.1 q (p' + j) = x) → p' + s.length + 1 ≤ len → s.length + 1 ≤ f' → ∃ S2, fX2_worth_l4 N q f' (nI 0) (nI p') S' = some (S2, vs) ∧ Fr [17] S S2 := fun S' p' f' fS hrow hpp hff => by
      obtain ⟨f3, rfl⟩ : ∃ y, f' = y + 1 + s.length := ⟨f' - 1 - s.length, by omega⟩
      have hq17 : S'.1 q = S.1 q := fS.row (by simp; omega)
      have hl' : aln S'.2.2 q = len := by
        rw [fS.2]
        exact hl
      obtain ⟨S2, z1, z2, z3⟩ := c_ops (N := N) (L := L) (len := len) hq (by omega) s p' (f3 + 1) [] [vs] S' hl' (by omega) g2'.1 (fun j x hx => by
        rw [hq17]
        exact hrow j (stI x) (get_app1 (get_map hx))) vs1 trivial (by simp) (fun j hj => by rw [fS.row (by decide)]; exact hL j hj)
      have z1' : fX2_worth_l4 N q (f3 + 1 + s.length) (nI 0) (nI p') S' = fX2_worth_l4 N q (f3 + 1) (nI 1) (nI (p' + s.length)) S2 := z1
      have hq2 : S2.1 q = S.1 q := (z2.row (by simp; omega)).trans hq17
      rw [z1', c_done (len := len) (v := vs) (by rw [z2.2]; exact hl') (by omega) (by omega) (by
        rw [hq2]
        have := hrow s.length 10020 (by
          have := get_app2 (x := s.map stI) (y := [(10020 : Int32)]) (j := 0) (o := 10020) rfl
          rw [List.length_map] at this
          exact this)
        exact this) z3.1]
      exact ⟨S2, rfl, fS.tr z2⟩
    unfold fX12_worthOf_l6
    rw [ck_in (by omega) (by omega), e57, ek, if_neg (nI_ge (by omega) (by omega)), ck_in kB (by omega), ck_in kB (by omega), g58, g59]
    rcases Nat.eq_zero_or_pos c.length with hz | hz
    · -- no condition
      have ec : cst p c s = s.map stI ++ [10020] := by
        unfold cst
        rw [if_pos hz]
      rw [ec] at hpl hf hc
      rw [List.length_append, List.length_map] at hpl hf
      simp at hpl hf
      rw [if_pos (show nI o = nI (o + c.length) by rw [hz, Nat.add_zero])]
      obtain ⟨T2, x1, x2⟩ := sumM T Fr.rf
      obtain ⟨S2, y1, y2⟩ := sumC S p f Fr.rf (fun j x hx => hc j x (get_app1 hx)) (by omega) (by omega)
      exact ⟨vs, S2, T2, y1, x1, y2, x2⟩
    · have hB : Boo 18 c := by
        rcases g1' with q | q
        · omega
        · exact q
      obtain ⟨vc, vc0, vc1, vc2⟩ := hB.2 L 64 [] (by simp)
      have ec : cst p c s = c.map stI ++ (nI (20000 + (p + c.length + 1 + s.length + 1)) :: (s.map stI ++ [10020])) := by
        unfold cst
        rw [if_neg (by omega)]
      have ecl : (cst p c s).length = c.length + 1 + s.length + 1 := by
        rw [ec, List.length_append, List.length_map, List.length_cons, List.length_append, List.length_map]
        simp
        omega
      rw [if_neg (fun z => by
        have := (nI_eq (by omega) (by omega)).mp z
        omega), ck_in kB (by omega), ck_in kB (by omega)]
      obtain ⟨T1, x1, x2⟩ := m_work (N := N) (t := t) (q := o) (to := o + c.length) (L := L) (ops := c) (v := vc) (T := T) hN ht (by omega) rfl hB.1 (fun j x hx => hd j x (get_app1 (get_app1 hx))) vc2 hL2
      rw [b2_s x1]
      have epp : p + (cst p c s).length = p + c.length + 1 + s.length + 1 := by
        rw [ecl]
        omega
      rw [epp] at hpl hf hc
      rw [ecl] at hpl hf
      obtain ⟨f3, rfl⟩ : ∃ y, f = y + 1 + c.length := ⟨f - 1 - c.length, by omega⟩
      obtain ⟨S1, z1, z2, z3⟩ := c_ops (N := N) (L := L) (len := len) hq (by omega) c p (f3 + 1) [] [vc] S hl (by omega) hB.1 (fun j x hx => hc j (stI x) (by
        rw [ec]
        exact get_app1 (get_app1 (get_map hx)))) vc1 trivial (by simp) hL
      have z1' : fX2_worth_l4 N q (f3 + 1 + c.length) (nI 0) (nI p) S = fX2_worth_l4 N q (f3 + 1) (nI 1) (nI (p + c.length)) S1 := z1
      have hq1 : S1.1 q = S.1 q := z2.row (by simp; omega)
      have hl1 : aln S1.2.2 q = len := by
        rw [z2.2]
        exact hl
      have hj : S.1 q (p + c.length) = nI (20000 + (p + c.length + 1 + s.length + 1)) := hc c.length _ (by
        rw [ec]
        have := get_app2 (x := c.map stI) (y := nI (20000 + (p + c.length + 1 + s.length + 1)) :: (s.map stI ++ [10020])) (j := 0) rfl
        rw [List.length_map] at this
        exact get_app1 this)
      rw [z1', c_jump (len := len) (x := p + c.length + 1 + s.length + 1) hl1 (by omega) (by omega) (by omega) (by omega) (by rw [hq1]; exact hj), show S1.1 17 0 = vc from z3.1]
      by_cases hv : vc = 0
      · rw [if_pos hv, if_pos hv, lt_s9, nI_1]
        obtain ⟨v, S2, T2, w1, w2, w3, w4⟩ := w_law (L := L) hN hq hlen ht hm r (p + c.length + 1 + s.length + 1) (k + 1) (o + c.length + s.length) f3 f2 S1 T1 hl1 (by omega) (fun j x hx => by
          rw [hq1, show p + c.length + 1 + s.length + 1 + j = p + ((cst p c s).length + j) by rw [ecl]; omega]
          exact hc _ x (get_app2 hx)) (fun j x hx => by
          rw [x2.row (k := 54) (by decide), x2.row (k := 55) (by decide), show o + c.length + s.length + j = o + ((c ++ s).length + j) by rw [List.length_append]; omega]
          exact hd _ x (get_app2 hx)) (by omega) (rwM_c r _ _ (fun i _ _ => ⟨by rw [x2.row (by decide)], by rw [x2.row (by decide)], by rw [x2.row (by decide)]⟩) r4) (by omega) (by rw [x2.row (by decide)]; exact h57) (fun y hy => hg y (List.mem_cons_of_mem _ hy)) (fun j hj => by rw [z2.row (by decide)]; exact hL j hj) (fun j hj => by rw [x2.row (by decide)]; exact hL2 j hj) (by omega) (by omega)
        exact ⟨v, S2, T2, w1, w2, z2.tr w3, x2.tr w4⟩
      · rw [if_neg hv, if_neg hv]
        obtain ⟨T2, y1, y2⟩ := sumM T1 x2
        obtain ⟨S2, u1, u2⟩ := sumC S1 (p + c.length + 1) f3 z2 (fun j x hx => by
          have := hc (c.length + 1 + j) x (by
            rw [ec]
            have q1 : (nI (20000 + (p + c.length + 1 + s.length + 1)) :: (s.map stI ++ [10020]))[j + 1]? = some x := hx
            have q2 := get_app2 (x := c.map stI) q1
            rw [List.length_map, show c.length + (j + 1) = c.length + 1 + j by omega] at q2
            exact get_app1 q2)
          rw [show p + c.length + 1 + j = p + (c.length + 1 + j) by omega]
          exact this) (by omega) (by omega)
        exact ⟨vs, S2, T2, u1, y1, u2, y2⟩
/-! laws kept: what they say -/
def LW (i : Nat) (cs : List (List (Nat × Nat) × List (Nat × Nat))) (S T : SS) : Prop := S.2.2 (48 + i) = (psC 0 cs).length ∧ (∀ j x, (psC 0 cs)[j]? = some x → S.1 (48 + i) j = x) ∧ cdM T i (cdF cs) ∧ T.1 57 i = nI cs.length ∧ rwM T i 0 0 cs ∧ gdC cs ∧ (psC 0 cs).length ≤ 240 ∧ cs.length ≤ 120 ∧ (cdF cs).length ≤ 240
theorem aln48 {ln : Nat → Nat} {i : Nat} (hi : i < 4) : aln ln (48 + i) = ln (48 + i) := by
  rcases (by omega : i = 0 ∨ i = 1 ∨ i = 2 ∨ i = 3) with rfl | rfl | rfl | rfl <;> rfl
theorem law_of {N i : Nat} {cs : List (List (Nat × Nat) × List (Nat × Nat))} {S T : SS} (hN : 600 ≤ N) (hi : i < 4) (h : LW i cs S T) : lawE N i S T := by
  obtain ⟨h1, h2, h3, h4, h5, h6, h7, h8, h9⟩ := h
  intro S1 T1 a1 a2 a3 a4 a5 a6
  have hl : aln S1.2.2 (48 + i) = (psC 0 cs).length := by
    rw [aln48 hi, a2, h1]
  obtain ⟨v, S2, T2, z1, z2, z3, z4⟩ := w_law (N := N) (q := 48 + i) (t := i) (len := (psC 0 cs).length) (m := cs.length) (L := S1.1 16) hN (by omega) h7 (by omega) (by omega) cs 0 0 0 N N S1 T1 hl (by omega) (fun j x hx => by
    rw [a1, Nat.zero_add]
    exact h2 j x hx) (fun j x hx => by
    have hj : j < (cdF cs).length := (List.getElem?_eq_some_iff.mp hx).1
    rw [Nat.zero_add, (a3 j (by omega)).1, (a3 j (by omega)).2]
    exact h3.2 j x hx) (by omega) (rwM_c cs 0 0 (fun j _ hj => ⟨(a5 j (by omega)).1, (a5 j (by omega)).2.1, (a5 j (by omega)).2.2⟩) h5) (by omega) (a4.trans h4) h6 (fun j _ => rfl) (fun j hj => (a6 j hj).symm) (by omega) (by omega)
  refine ⟨S2, T2, v, z1, ?_, z3, z4⟩
  unfold fX12_worthOf
  rw [lt_s9]
  have ek : (140 : Int32) * nI i = nI (140 * i + 0) := pk_mul 140 i
  rw [ek]
  exact z2
