/-! a DAY goes by -/
theorem gi_ne {S : SS} {k j j' : Nat} {v : Int32} (h : j' ≠ j) : gi (pj S k j v) k j' = gi S k j' := by
  rw [gi_pj, if_pos rfl, if_neg h]
theorem ga_ne {S : SS} {k : Nat} {i i' v : Int32} (h : i'.toNatClampNeg ≠ i.toNatClampNeg) : ga (pa S k i v) k i' = ga S k i' := by
  rw [ga_pa, if_pos rfl, if_neg h]
def dayF (m : Nat → Int32) : Nat → Int32 := upd (upd (upd (upd m 29 0) 30 0) 31 (nI (min 9999 ((m 31).toNatClampNeg + 1)))) 32 (nI (dayN m + 1))
theorem c_pass {E N : Nat} {S : SS} {m : Nat → Int32} (hE : E ≤ 7) (hv : Lv E 18 S m) (hw : wfL E m) : ∃ S', fX10_passDay N S 18 = some S' ∧ Fr [18, 25] S S' ∧ Lv E 18 S' (dayF m) ∧ (∀ q, q < dayN m % 100 * 3 ∨ dayN m % 100 * 3 + 3 ≤ q → S'.1 25 q = S.1 25 q) ∧ ∀ w, w < 3 → S'.1 25 (dayN m % 100 * 3 + w) = m (29 + w) := by
  obtain ⟨d1, d2⟩ := day_eq hw
  obtain ⟨c, c1, c2⟩ := coin_eq hw
  have e9 : gi S 18 9 = nI (dayN m) := hv.2.2.2.2.2.2.trans d1
  have e8 : gi S 18 8 = nI c := hv.2.2.2.2.2.1.trans c2
  have cc : (m 31).toNatClampNeg = c := by rw [c2, nI_clamp (by omega)]
  unfold fX10_passDay fX4_writeDay dayF
  rw [cc, e9, bd_s (plc (by omega))]
  have hP3 : dayN m % 100 * 3 + 3 ≤ 300 := by omega
  revert hP3
  generalize dayN m % 100 * 3 = P
  intro hP3
  have g : ∀ (A : SS) (i v : Int32) (j : Nat), gi (pa A 25 i v) 18 j = gi A 18 j := fun _ _ _ _ => rfl
  simp only [lt_s9, g]
  rw [show (2 : Int32) = nI 2 from rfl, nI_1, nI_add, ck_in (by omega) (by omega), ck_in (by omega) (by omega), ck_in (by omega) (by omega), bd_s rfl]
  have hS1 : Fr [25] S (pa (pa (pa S 25 (nI P) (gi S 18 6)) 25 (nI (P + 1)) (gi S 18 7)) 25 (nI (P + 2)) (gi S 18 8)) := ((Fr.pa (by simp)).tr (Fr.pa (by simp))).tr (Fr.pa (by simp))
  have h25 : (pa (pa (pa S 25 (nI P) (gi S 18 6)) 25 (nI (P + 1)) (gi S 18 7)) 25 (nI (P + 2)) (gi S 18 8)).1 25 = upd (upd (upd (S.1 25) P (m 29)) (P + 1) (m 30)) (P + 2) (m 31) := by
    rw [row_pa, if_pos rfl, row_pa, if_pos rfl, row_pa, if_pos rfl, nI_clamp (by omega), nI_clamp (by omega), nI_clamp (by omega), hv.2.2.2.1, hv.2.2.2.2.1, hv.2.2.2.2.2.1]
  revert hS1 h25
  generalize pa (pa (pa S 25 (nI P) (gi S 18 6)) 25 (nI (P + 1)) (gi S 18 7)) 25 (nI (P + 2)) (gi S 18 8) = S1
  intro hS1 h25
  have hv1 : Lv E 18 S1 m := hv.f hS1 (by simp)
  have f8 : gi (pj (pj S1 18 6 0) 18 7 0) 18 8 = nI c := by
    rw [gi_ne (by decide), gi_ne (by decide), hS1.gi (by decide), e8]
  rw [f8, nI_1, mn_nI (by omega)]
  generalize min 9999 (c + 1) = K
  have f9 : gi (pj (pj (pj S1 18 6 0) 18 7 0) 18 8 (nI K)) 18 9 = nI (dayN m) := by
    rw [gi_ne (by decide), gi_ne (by decide), gi_ne (by decide), hS1.gi (by decide), e9]
  rw [f9, nI_1]
  refine ⟨_, rfl, ?_, ?_, fun q hq => ?_, fun w hw => ?_⟩
  · exact ((((hS1.mono (by simp)).tr (Fr.pj (by simp))).tr (Fr.pj (by simp))).tr (Fr.pj (by simp))).tr (Fr.pj (by simp))
  · exact (((hv1.slot (v := 0) hE (j := 6) (by omega) (by omega)).slot (v := 0) hE (j := 7) (by omega) (by omega)).slot (v := nI K) hE (j := 8) (by omega) (by omega)).slot (v := nI (dayN m + 1)) hE (j := 9) (by omega) (by omega)
  · rw [row_pj, if_neg (by decide), row_pj, if_neg (by decide), row_pj, if_neg (by decide), row_pj, if_neg (by decide), h25, pk_un (by omega), pk_un (by omega), pk_un (by omega)]
  · rw [row_pj, if_neg (by decide), row_pj, if_neg (by decide), row_pj, if_neg (by decide), row_pj, if_neg (by decide), h25]
    rcases (by omega : w = 0 ∨ w = 1 ∨ w = 2) with rfl | rfl | rfl
    · rw [pk_un (by omega), pk_un (by omega), Nat.add_zero, pk_us]
    · rw [pk_un (by omega), pk_us]
    · rw [pk_us]
theorem pass_j {N L c D : Nat} {T : SS} (h33 : T.1 67 33 = nI L) (hL : L < 60) (h31 : T.1 67 31 = nI c) (hc : c ≤ 9999) (h32 : T.1 67 32 = nI D) : ∃ T', fX12_passDay_j58 N T = some T' ∧ Fr [67] T T' ∧ T'.1 67 = upd (upd (upd (upd (upd (upd (upd (upd (T.1 67) (34 + 3 * L) (T.1 67 29)) (34 + 3 * L + 1) (T.1 67 30)) (34 + 3 * L + 2) (T.1 67 31)) 33 (nI (L + 1))) 29 0) 30 0) 31 (nI (min 9999 (c + 1)))) 32 (nI (D + 1)) := by
  unfold fX12_passDay_j58
  have e33 : ga T 67 33 = nI L := h33
  rw [e33, show (3 : Int32) = nI 3 from rfl, pk_mul, show (34 : Int32) = nI 34 from rfl, nI_add]
  simp only [lt_s9]
  rw [nI_1, show (2 : Int32) = nI 2 from rfl, nI_add, ck_in (by omega) (by omega), ck_in (by omega) (by omega), ck_in (by omega) (by omega)]
  have gA : ∀ (A : SS) (i : Nat) (x : Int32) (j : Int32), i < 2 ^ 31 → ga (pa A 67 (nI i) x) 67 j = upd (A.1 67) i x j.toNatClampNeg := fun A i x j hi => by
    unfold ga
    rw [row_pa, if_pos rfl, nI_clamp hi]
  have gB : ∀ (A : SS) (i : Nat) (x : Int32), i < 2 ^ 31 → (pa A 67 (nI i) x).1 67 = upd (A.1 67) i x := fun A i x hi => by
    rw [row_pa, if_pos rfl, nI_clamp hi]
  rw [show (33 : Int32) = nI 33 from rfl, show (29 : Int32) = nI 29 from rfl, show (30 : Int32) = nI 30 from rfl, show (31 : Int32) = nI 31 from rfl, show (32 : Int32) = nI 32 from rfl]
  have r1 : ga T 67 (nI 29) = T.1 67 29 := rfl
  rw [r1]
  have r2 : ga (pa T 67 (nI (34 + 3 * L)) (T.1 67 29)) 67 (nI 30) = T.1 67 30 := by
    rw [gA _ _ _ _ (by omega)]
    exact pk_un (show 30 ≠ 34 + 3 * L by omega)
  rw [r2]
  have r3 : ga (pa (pa T 67 (nI (34 + 3 * L)) (T.1 67 29)) 67 (nI (34 + 3 * L + 1)) (T.1 67 30)) 67 (nI 31) = T.1 67 31 := by
    rw [gA _ _ _ _ (by omega), gB _ _ _ (by omega)]
    exact (pk_un (show 31 ≠ 34 + 3 * L + 1 by omega)).trans (pk_un (show 31 ≠ 34 + 3 * L by omega))
  rw [r3]
  have r4 : ga (pa (pa (pa T 67 (nI (34 + 3 * L)) (T.1 67 29)) 67 (nI (34 + 3 * L + 1)) (T.1 67 30)) 67 (nI (34 + 3 * L + 2)) (T.1 67 31)) 67 (nI 33) = nI L := by
    rw [gA _ _ _ _ (by omega), gB _ _ _ (by omega), gB _ _ _ (by omega)]
    exact (pk_un (show 33 ≠ 34 + 3 * L + 2 by omega)).trans ((pk_un (show 33 ≠ 34 + 3 * L + 1 by omega)).trans ((pk_un (show 33 ≠ 34 + 3 * L by omega)).trans h33))
  rw [r4, nI_1]
  have hF : Fr [67] T (pa (pa (pa T 67 (nI (34 + 3 * L)) (T.1 67 29)) 67 (nI (34 + 3 * L + 1)) (T.1 67 30)) 67 (nI (34 + 3 * L + 2)) (T.1 67 31)) := ((Fr.pa (by simp)).tr (Fr.pa (by simp))).tr (Fr.pa (by simp))
  have hB : (pa (pa (pa T 67 (nI (34 + 3 * L)) (T.1 67 29)) 67 (nI (34 + 3 * L + 1)) (T.1 67 30)) 67 (nI (34 + 3 * L + 2)) (T.1 67 31)).1 67 = upd (upd (upd (T.1 67) (34 + 3 * L) (T.1 67 29)) (34 + 3 * L + 1) (T.1 67 30)) (34 + 3 * L + 2) (T.1 67 31) := by
    rw [gB _ _ _ (by omega), gB _ _ _ (by omega), gB _ _ _ (by omega)]
  have b31 : upd (upd (upd (T.1 67) (34 + 3 * L) (T.1 67 29)) (34 + 3 * L + 1) (T.1 67 30)) (34 + 3 * L + 2) (T.1 67 31) 31 = nI c := by
    rw [pk_un (by omega), pk_un (by omega), pk_un (by omega), h31]
  have b32 : upd (upd (upd (T.1 67) (34 + 3 * L) (T.1 67 29)) (34 + 3 * L + 1) (T.1 67 30)) (34 + 3 * L + 2) (T.1 67 31) 32 = nI D := by
    rw [pk_un (by omega), pk_un (by omega), pk_un (by omega), h32]
  revert hF hB b31 b32
  generalize pa (pa (pa T 67 (nI (34 + 3 * L)) (T.1 67 29)) 67 (nI (34 + 3 * L + 1)) (T.1 67 30)) 67 (nI (34 + 3 * L + 2)) (T.1 67 31) = A
  generalize upd (upd (upd (T.1 67) (34 + 3 * L) (T.1 67 29)) (34 + 3 * L + 1) (T.1 67 30)) (34 + 3 * L + 2) (T.1 67 31) = B
  intro hF hB b31 b32
  have s1 : ga (pa (pa (pa A 67 (nI 33) (nI (L + 1))) 67 (nI 29) 0) 67 (nI 30) 0) 67 (nI 31) = nI c := by
    rw [ga_ne (by decide), ga_ne (by decide), ga_ne (by decide)]
    show A.1 67 31 = nI c
    rw [hB, b31]
  rw [s1, nI_1, mn_nI (by omega)]
  generalize min 9999 (c + 1) = K
  have s2 : ga (pa (pa (pa (pa A 67 (nI 33) (nI (L + 1))) 67 (nI 29) 0) 67 (nI 30) 0) 67 (nI 31) (nI K)) 67 (nI 32) = nI D := by
    rw [ga_ne (by decide), ga_ne (by decide), ga_ne (by decide), ga_ne (by decide)]
    show A.1 67 32 = nI D
    rw [hB, b32]
  rw [s2, nI_1]
  refine ⟨_, rfl, ?_, ?_⟩
  · exact ((((hF.tr (Fr.pa (by simp))).tr (Fr.pa (by simp))).tr (Fr.pa (by simp))).tr (Fr.pa (by simp))).tr (Fr.pa (by simp))
  · rw [gB _ _ _ (by omega), gB _ _ _ (by omega), gB _ _ _ (by omega), gB _ _ _ (by omega), gB _ _ _ (by omega), hB]
theorem pass_l {N : Nat} {T0 : SS} : ∀ (j i n : Nat) (T : SS), Fr [67] T0 T → (∀ q, T.1 67 q = if 34 ≤ q ∧ q + 3 < 34 + i then T0.1 67 (q + 3) else T0.1 67 q) → 3 ≤ i → i + j = 180 → j < n → ∃ T2, fX12_passDay_l14 N n (nI i) T = (lt (pa T2 67 33 ((ga T2 67 33) - 1)) fun T2 => fX12_passDay_j58 N T2) ∧ Fr [67] T0 T2 ∧ ∀ q, T2.1 67 q = if 34 ≤ q ∧ q + 3 < 214 then T0.1 67 (q + 3) else T0.1 67 q := by
  intro j
  induction j with
  | zero =>
    intro i n T fT hq _ hi hn
    obtain ⟨n, rfl⟩ : ∃ q, n = q + 1 := ⟨n - 1, by omega⟩
    have : i = 180 := by omega
    subst this
    unfold fX12_passDay_l14
    rw [if_pos (by decide)]
    exact ⟨T, rfl, fT, fun q => by rw [hq q]⟩
  | succ j ih =>
    intro i n T fT hq h3 hi hn
    obtain ⟨n, rfl⟩ : ∃ q, n = q + 1 := ⟨n - 1, by omega⟩
    unfold fX12_passDay_l14
    rw [if_neg (show ¬ (180 : Int32) ≤ nI i from nI_ge (b := 180) (by omega) (by omega)), show (34 : Int32) + nI i = nI (34 + i) from nI_add 34 i, show nI (34 + i) - 3 = nI (34 + i - 3) from pk_sub (b := 3) (by omega), ck_in (by omega) (by omega), ck_in (by omega) (by omega), lt_s9, lt_s9, nI_1, ga_nI (by omega)]
    refine ih (i + 1) n _ (fT.tr (Fr.pa (by decide))) (fun q => ?_) (by omega) (by omega) (by omega)
    rw [row_pa, if_pos rfl, nI_clamp (by omega), hq (34 + i), if_neg (by omega)]
    by_cases e : q = 34 + i - 3
    · rw [e, pk_us, if_pos (by omega)]
      exact congrArg (T0.1 67) (by omega)
    · rw [pk_un e, hq q]
      by_cases e2 : 34 ≤ q ∧ q + 3 < 34 + i
      · rw [if_pos e2, if_pos (by omega)]
      · rw [if_neg e2, if_neg (by omega)]
theorem m_pass {E N : Nat} (hN : 10000 ≤ N) {T : SS} (hw : wfL E (T.1 67)) (h33 : T.1 67 33 = nI (min 60 (dayN (T.1 67)))) : ∃ T', fX12_passDay N T = some T' ∧ Fr [67] T T' ∧ (∀ j, j < 33 → T'.1 67 j = dayF (T.1 67) j) ∧ T'.1 67 33 = nI (min 60 (dayN (T.1 67) + 1)) ∧ (∀ q, q < 3 * (min 60 (dayN (T.1 67) + 1) - 1) → T'.1 67 (34 + q) = T.1 67 (34 + q + 3 * (min 60 (dayN (T.1 67)) + 1 - min 60 (dayN (T.1 67) + 1)))) ∧ ∀ w, w < 3 → T'.1 67 (34 + 3 * (min 60 (dayN (T.1 67) + 1) - 1) + w) = T.1 67 (29 + w) := by
  obtain ⟨d1, d2⟩ := day_eq hw
  obtain ⟨c, c1, c2⟩ := coin_eq hw
  have cc : (T.1 67 31).toNatClampNeg = c := by rw [c2, nI_clamp (by omega)]
  have hfin : ∀ (T1 T' : SS) (L : Nat), (∀ j, j < 33 → T1.1 67 j = T.1 67 j) → T'.1 67 = upd (upd (upd (upd (upd (upd (upd (upd (T1.1 67) (34 + 3 * L) (T1.1 67 29)) (34 + 3 * L + 1) (T1.1 67 30)) (34 + 3 * L + 2) (T1.1 67 31)) 33 (nI (L + 1))) 29 0) 30 0) 31 (nI (min 9999 (c + 1)))) 32 (nI (dayN (T.1 67) + 1)) → (∀ j, j < 33 → T'.1 67 j = dayF (T.1 67) j) ∧ T'.1 67 33 = nI (L + 1) ∧ (∀ q, q < 3 * L → T'.1 67 (34 + q) = T1.1 67 (34 + q)) ∧ ∀ w, w < 3 → T'.1 67 (34 + 3 * L + w) = T.1 67 (29 + w) := fun T1 T' L h1 h2 => by
    rw [h2]
    refine ⟨fun j hj => ?_, ?_, fun q hq => ?_, fun w hw => ?_⟩
    · unfold dayF
      rw [cc]
      by_cases e1 : j = 32
      · rw [e1, pk_us, pk_us]
      rw [pk_un e1, pk_un e1]
      by_cases e2 : j = 31
      · rw [e2, pk_us, pk_us]
      rw [pk_un e2, pk_un e2]
      by_cases e3 : j = 30
      · rw [e3, pk_us, pk_us]
      rw [pk_un e3, pk_un e3]
      by_cases e4 : j = 29
      · rw [e4, pk_us, pk_us]
      rw [pk_un e4, pk_un e4, pk_un (by omega), pk_un (by omega), pk_un (by omega), pk_un (by omega), h1 j hj]
    · rw [pk_un (by omega), pk_un (by omega), pk_un (by omega), pk_un (by omega), pk_us]
    · rw [pk_un (by omega), pk_un (by omega), pk_un (by omega), pk_un (by omega), pk_un (by omega), pk_un (by omega), pk_un (by omega), pk_un (by omega)]
    · rw [pk_un (by omega), pk_un (by omega), pk_un (by omega), pk_un (by omega), pk_un (by omega)]
      rcases (by omega : w = 0 ∨ w = 1 ∨ w = 2) with rfl | rfl | rfl
      · rw [pk_un (by omega), pk_un (by omega), Nat.add_zero, pk_us, h1 29 (by omega)]
      · rw [pk_un (by omega), pk_us, h1 30 (by omega)]
      · rw [pk_us, h1 31 (by omega)]
  unfold fX12_passDay
  have g33 : ga T 67 33 = nI (min 60 (dayN (T.1 67))) := h33
  rw [g33]
  by_cases h60 : 60 ≤ dayN (T.1 67)
  · have e1 : min 60 (dayN (T.1 67)) = 60 := by omega
    have e2 : min 60 (dayN (T.1 67) + 1) = 60 := by omega
    rw [e1, e2, if_pos (by decide)]
    obtain ⟨T1, z1, z2, z3⟩ := pass_l (N := N) (T0 := T) 177 3 N T Fr.rf (fun q => by rw [if_neg (by omega)]) (by omega) (by omega) (by omega)
    have z1' : fX12_passDay_l14 N N 3 T = _ := z1
    rw [z1', lt_s9]
    have g1 : ga T1 67 33 = nI 60 := by
      show T1.1 67 33 = _
      rw [z3 33, if_neg (by omega), h33, e1]
    rw [g1, show nI 60 - 1 = nI 59 from rfl]
    have hr : (pa T1 67 33 (nI 59)).1 67 = upd (T1.1 67) 33 (nI 59) := by
      rw [row_pa, if_pos rfl]
      rfl
    have hj : ∀ j, j < 33 → (pa T1 67 33 (nI 59)).1 67 j = T.1 67 j := fun j hj => by
      rw [hr, pk_un (by omega), z3 j, if_neg (by omega)]
    obtain ⟨T2, y1, y2, y3⟩ := pass_j (N := N) (T := pa T1 67 33 (nI 59)) (L := 59) (c := c) (D := dayN (T.1 67)) (by rw [hr, pk_us]) (by omega) (by rw [hj 31 (by omega), c2]) c1 (by rw [hj 32 (by omega), d1])
    obtain ⟨w1, w2, w3, w4⟩ := hfin _ T2 59 hj y3
    refine ⟨T2, y1, (z2.tr (Fr.pa (by simp))).tr y2, w1, w2, fun q hq => ?_, w4⟩
    rw [w3 q (by omega), hr, pk_un (by omega), z3, if_pos (by omega)]
  · have e1 : min 60 (dayN (T.1 67)) = dayN (T.1 67) := by omega
    have e2 : min 60 (dayN (T.1 67) + 1) = dayN (T.1 67) + 1 := by omega
    rw [e1, e2, if_neg (show ¬ nI (dayN (T.1 67)) = 60 from fun z => by
      have := (nI_eq (b := 60) (by omega) (by omega)).mp z
      omega)]
    rw [e1] at h33
    obtain ⟨T2, y1, y2, y3⟩ := pass_j (N := N) (T := T) (L := dayN (T.1 67)) (c := c) (D := dayN (T.1 67)) h33 (by omega) c2 c1 d1
    obtain ⟨w1, w2, w3, w4⟩ := hfin T T2 (dayN (T.1 67)) (fun _ _ => rfl) y3
    refine ⟨T2, y1, y2, w1, w2, fun q hq => ?_, w4⟩
    rw [w3 q (by omega)]
    exact congrArg (T.1 67) (by omega)
theorem log_ring {ring ring' m : Nat → Int32} {D : Nat} (h : logE ring m) (h1 : dayN m ≤ D) (h2 : D ≤ dayN m + 39) (e : ∀ q, q < D % 100 * 3 ∨ D % 100 * 3 + 3 ≤ q → ring' q = ring q) : logE ring' m := ⟨h.1, fun i w hi hw => by
  rw [e _ (by omega)]
  exact h.2 i w hi hw⟩
theorem JK_c {T T' : SS} (h : JK T) (e52 : T'.1 52 28 = T.1 52 28) (e69 : T'.1 69 = T.1 69) (e32 : T'.1 67 32 = T.1 67 32) : JK T' := by
  obtain ⟨a, a1, a2, a3, a4⟩ := h
  refine ⟨a, a1, a2, e52.trans a3, ?_⟩
  rw [day_c e32, ← a4]
  exact day_c (by
    unfold kM
    rw [e69])
theorem passes {N E : Nat} (hN : 10000 ≤ N) {S T : SS} (h : RelE N E S T) (hj : JK T) (hd : dayN (T.1 67) < 999) : ∃ S' T', fX10_passDay N S 18 = some S' ∧ fX12_passDay N T = some T' ∧ RelE N E S' T' ∧ dayN (T'.1 67) = dayN (T.1 67) + 1 ∧ S'.2 = S.2 ∧ T'.2 = T.2 := by
  obtain ⟨hE, hm, hv, hw⟩ := relE_cx h
  obtain ⟨h0, nx, a, b1, b2', b3, b4, b5, b6, b7, b8⟩ := h.2.2.2.1
  obtain ⟨a', a1, a2, a3, a4⟩ := hj
  have ea : a' = a := (nI_eq (by omega) (by omega)).mp (a3.symm.trans b5)
  subst ea
  obtain ⟨S', z1, z2, z3, z4, z5⟩ := c_pass (N := N) hE hv hw
  obtain ⟨T', y1, y2, y3, y4, y5, y6⟩ := m_pass hN hw h0.2.2.1
  obtain ⟨d1, d2⟩ := day_eq hw
  obtain ⟨c, c1, c2⟩ := coin_eq hw
  have e32 : T'.1 67 32 = nI (dayN (T.1 67) + 1) := by
    rw [y3 32 (by omega)]
    exact pk_us
  have e31 : ∃ v, v ≤ 9999 ∧ T'.1 67 31 = nI v := by
    refine ⟨_, Nat.min_le_left 9999 ((T.1 67 31).toNatClampNeg + 1), ?_⟩
    rw [y3 31 (by omega)]
    unfold dayF
    rw [pk_un (by decide), pk_us]
  have ed : dayN (T'.1 67) = dayN (T.1 67) + 1 := by
    have : dayN (T'.1 67) = (T'.1 67 32).toNatClampNeg := rfl
    rw [this, e32, nI_clamp (by omega)]
  have hlow : ∀ j, j ≤ 28 → T'.1 67 j = T.1 67 j := fun j hj => by
    rw [y3 j (by omega)]
    unfold dayF
    rw [pk_un (by omega), pk_un (by omega), pk_un (by omega), pk_un (by omega)]
  have hw' : wfL E (T'.1 67) := wf_hi hE hw hlow e31 ⟨_, by omega, e32⟩
  have hv' : Lv E 18 S' (T'.1 67) := z3.eq hE (fun j hj => y3 j hj.2)
  have kc : ∀ j, kC S' nx j = kC S nx j := fun j => by
    unfold kC
    rw [z2.row (k := 24) (by decide)]
  have km : ∀ a j, kM T' a j = kM T a j := fun a j => by
    unfold kM
    rw [y2.row (k := 69) (by decide)]
  have hch : ∀ j, j < a' → dayN (kM T a' j) ≤ dayN (T.1 67) ∧ dayN (T.1 67) ≤ dayN (kM T a' j) + j := fun j => by
    induction j with
    | zero =>
      intro _
      rw [a4]
      omega
    | succ j ih =>
      intro hj
      have q1 := ih (by omega)
      have q2 := b8 j hj
      omega
  refine ⟨S', T', z1, y1, rel_now h (fun k hk => z2.row (by simp; omega)) (congrFun (z2.row (by decide)) 4) (by rw [z2.2]) (z3.1.trans hv.1.symm) (fun k _ _ q3 _ _ => y2.row (by simp [q3])) (fun j _ => congrFun (y2.row (by decide)) j) ⟨⟨now_of hv', hw', ?_⟩, nx, a', b1, b2', (z2.gi (by decide)).trans b3, (z2.gi (by decide)).trans b4, (y2.gi (by decide)).trans b5, fun j hj => ?_, fun _ => ?_, fun j hj => ?_⟩, ed, z2.2, y2.2⟩
  · refine ⟨by rw [ed]; exact y4, fun i w hi hw => ?_⟩
    rw [ed] at hi ⊢
    have hl := h0.2.2.2
    by_cases i0 : i = 0
    · subst i0
      have q := z5 w hw
      rw [show dayN (T.1 67) + 1 - 1 - 0 = dayN (T.1 67) by omega, q, show min 60 (dayN (T.1 67) + 1) - 1 - 0 = min 60 (dayN (T.1 67) + 1) - 1 by omega, y6 w hw]
    · rw [z4 _ (by omega)]
      have q := hl (i - 1) w (by omega) hw
      rw [show dayN (T.1 67) - 1 - (i - 1) = dayN (T.1 67) + 1 - 1 - i by omega] at q
      rw [q, show 34 + 3 * (min 60 (dayN (T.1 67) + 1) - 1 - i) + w = 34 + (3 * (min 60 (dayN (T.1 67) + 1) - 1 - i) + w) by omega, y5 _ (by omega)]
      exact congrArg (T.1 67) (by omega)
  · rw [kc, km]
    have q1 := hch j hj
    exact ⟨(b6 j hj).1, (b6 j hj).2.1, log_ring (b6 j hj).2.2 q1.1 (by omega) z4⟩
  · rw [km, ed, a4]
    omega
  · rw [km, km]
    exact b8 j hj
theorem days_l {N E n1 : Nat} (hN : 10000 ≤ N) (hn1 : n1 ≤ 60) : ∀ (j i n : Nat) (S T : SS), RelE N E S T → i + j = n1 → dayN (T.1 67) + j ≤ 999 → j < n → ∃ r S' T', fX11_days_l56 N n (nI n1) (nI i) S = some (S', r) ∧ fX12_days_l49 N n (nI n1) (nI i) T = some (T', r) ∧ RelE N E S' T' := by
  intro j
  induction j with
  | zero =>
    intro i n S T h hi _ hn
    obtain ⟨n, rfl⟩ : ∃ q, n = q + 1 := ⟨n - 1, by omega⟩
    have hle : nI n1 ≤ nI i := nI_le (by omega) (by omega)
    unfold fX11_days_l56 fX12_days_l49
    rw [if_pos hle, if_pos hle]
    have e : gi S 18 9 = ga T 67 32 := (relE_cx h).2.2.1.2.2.2.2.2.2
    rw [e]
    exact ⟨_, S, T, rfl, rfl, h⟩
  | succ j ih =>
    intro i n S T h hi hd hn
    obtain ⟨n, rfl⟩ : ∃ q, n = q + 1 := ⟨n - 1, by omega⟩
    have hle : ¬ nI n1 ≤ nI i := nI_ge (by omega) (by omega)
    unfold fX11_days_l56 fX12_days_l49
    rw [if_neg hle, if_neg hle]
    obtain ⟨S1, T1, k1, k2, k3, k4, k5, k6⟩ := keeps hN h
    have e67 : T1.1 67 = T.1 67 := k6.1 67 (by decide) (by decide)
    obtain ⟨S2, T2, p1, p2, p3, p4, p5, p6⟩ := passes hN k3 k4 (by rw [e67]; omega)
    rw [bd_s k1, bd_s k2, bd_s p1, bd_s p2, lt_s9, lt_s9, nI_1]
    exact ih (i + 1) n S2 T2 p3 (by omega) (by rw [p4, e67]; omega) (by omega)
theorem in60 {N : Nat} (x : Int32) : (x < 1 ∧ fX12_in N x 1 60 = some 0) ∨ (¬ x < 1 ∧ ¬ x ≤ 60 ∧ 60 < x ∧ fX12_in N x 1 60 = some 0) ∨ ∃ n, 1 ≤ n ∧ n ≤ 60 ∧ x = nI n ∧ fX12_in N x 1 60 = some 1 ∧ ¬ nI n < 1 ∧ nI n ≤ 60 ∧ ¬ 60 < nI n := by
  unfold fX12_in
  by_cases q1 : x < 1
  · exact Or.inl ⟨q1, by rw [if_pos q1]⟩
  by_cases q2 : 60 < x
  · refine Or.inr (Or.inl ⟨q1, fun z => ?_, q2, by rw [if_neg q1, if_pos q2]⟩)
    rw [Int32.lt_iff_toInt_lt] at q2
    rw [Int32.le_iff_toInt_le] at z
    omega
  refine Or.inr (Or.inr ?_)
  rcases ix3 x (n := 61) (by omega) with q | q | ⟨j, hj, rfl⟩
  · exfalso
    apply q1
    rw [Int32.lt_iff_toInt_lt] at q ⊢
    have z3 : (1 : Int32).toInt = 1 := by decide
    have z4 : (0 : Int32).toInt = 0 := by decide
    omega
  · exfalso
    apply q2
    have q' := q.2
    rw [Int32.le_iff_toInt_le] at q'
    rw [Int32.lt_iff_toInt_lt]
    have z3 : (60 : Int32).toInt = 60 := by decide
    have z4 : (nI 61).toInt = 61 := by decide
    omega
  · refine ⟨j, ?_, by omega, rfl, by rw [if_neg q1, if_neg q2], q1, nI_le (b := 60) (by omega) (by omega), q2⟩
    rcases Nat.eq_zero_or_pos j with rfl | hp
    · exact absurd (by decide) q1
    · exact hp
theorem s_days {N : Nat} (hN : 10000 ≤ N) {S T : SS} (h : Rel N S T) (a1 : Int32) : ∃ (r : Int32) (S' T' : SS), (fX11_days N S a1 = some (S', r)) ∧ (fX12_days N T a1 = some (T', r)) ∧ Rel N S' T' := by
  obtain ⟨E, hR⟩ := relE_of h
  obtain ⟨hE, _, hv, hw⟩ := relE_cx hR
  have hm := hR.2.1
  have href : ∀ w, w < 5 → ∃ S' T', (b2 (fX11_refuse N S (nI w)) fun S12 r11 => some (S12, r11)) = some (S', -1) ∧ fX12_days_j39 N a1 (nI w) T = some (T', -1) ∧ Rel N S' T' := fun w hw5 => by
    obtain ⟨S', T', r1, r2, r3⟩ := refs hw5 hR
    refine ⟨S', T', by rw [b2_s r1], ?_, E, r3⟩
    unfold fX12_days_j39
    rw [b2_s r2, if_neg n10]
  unfold fX11_days fX12_days fX11_days_j27
  rcases there2 (N := N) hm with ⟨_, e1, e2⟩ | ⟨hp, e1, e2⟩
  · rw [bd_s e1, if_pos rfl, if_pos e2]
    obtain ⟨S', T', r1, r2, r3⟩ := href 0 (by omega)
    exact ⟨-1, S', T', r1, r2, r3⟩
  rw [bd_s e1, if_neg n10, if_neg e2]
  obtain ⟨d1, d2⟩ := day_eq hw
  have e9 : gi S 18 9 = nI (dayN (T.1 67)) := hv.2.2.2.2.2.2.trans d1
  have e32 : ga T 67 32 = nI (dayN (T.1 67)) := d1
  rcases in60 (N := N) a1 with ⟨q1, q2⟩ | ⟨q1, q2, q3, q4⟩ | ⟨n, n1, n2, rfl, q1, q2, q3, q4⟩
  · rw [if_pos q1, bd_s q2, if_pos rfl]
    obtain ⟨S', T', r1, r2, r3⟩ := href 1 (by omega)
    exact ⟨-1, S', T', r1, r2, r3⟩
  · rw [if_neg q1, if_neg q2, bd_s q4, if_pos rfl]
    obtain ⟨S', T', r1, r2, r3⟩ := href 1 (by omega)
    exact ⟨-1, S', T', r1, r2, r3⟩
  unfold fX12_areDays
  rw [if_neg q2, if_pos q3, bd_s q1, if_neg n10, bd_s q1, if_neg n10, e9, e32, nI_add]
  by_cases hc : dayN (T.1 67) + n ≤ 999
  · rw [if_pos (show nI (dayN (T.1 67) + n) ≤ 999 from nI_le (b := 999) hc (by omega)), if_neg (show ¬ (999 : Int32) < nI (dayN (T.1 67) + n) from nI_nlt (a := 999) hc (by omega)), bd_s rfl, if_neg n10]
    unfold fX12_days_j39
    rw [b2_s ref_no, if_pos rfl]
    obtain ⟨r, S', T', r1, r2, r3⟩ := days_l hN n2 n 0 N S T hR (by omega) hc (by omega)
    exact ⟨r, S', T', r1, r2, E, r3⟩
  · rw [if_neg (show ¬ nI (dayN (T.1 67) + n) ≤ 999 from nI_ge (a := 999) (by omega) (by omega)), if_pos (show (999 : Int32) < nI (dayN (T.1 67) + n) from nI_lt (a := 999) (by omega) (by omega)), bd_s rfl, if_pos rfl]
    obtain ⟨S', T', r1, r2, r3⟩ := href 4 (by omega)
    exact ⟨-1, S', T', r1, r2, r3⟩
