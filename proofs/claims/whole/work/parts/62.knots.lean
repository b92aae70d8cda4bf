/-! knots: all rows, the least first -/
def jnF (m : Nat → Int32) (a b : Nat) : Nat → Int32 := upd (upd m (14 + a) (nI b)) (21 + b) (nI a)
def lvo (e : Nat) (g : Nat → Nat → Bool) (f : (Nat → Int32) → Nat → Nat → List (Nat × Nat)) (m : Nat → Int32) (M R : Nat) : Nat → Nat → List (Nat × Nat)
  | 0, _ => f m M (10 * R + 9)
  | i + 1, o => if g e o && opF m e o then f (jnF m e o) (M + 1) (10 * R + o) ++ lvo e g f m M R i (o + 1) else lvo e g f m M R i (o + 1)
def lvs (E : Nat) (g : Nat → Nat → Bool) : Nat → (Nat → Int32) → Nat → Nat → List (Nat × Nat)
  | 0 => fun _ M R => [(M, R)]
  | j + 1 => fun m M R => lvo (E - (j + 1)) g (lvs E g j) m M R E 0
/-- a property of all leaves -/
theorem lvo_all {e : Nat} {g : Nat → Nat → Bool} {f : (Nat → Int32) → Nat → Nat → List (Nat × Nat)} {m : Nat → Int32} {M R : Nat} {P : Nat × Nat → Prop} : ∀ (i o : Nat), (∀ c, c ∈ f m M (10 * R + 9) → P c) → (∀ x, o ≤ x → x < o + i → (g e x && opF m e x) = true → ∀ c, c ∈ f (jnF m e x) (M + 1) (10 * R + x) → P c) → ∀ c, c ∈ lvo e g f m M R i o → P c
  | 0, _, h1, _, c, hc => h1 c hc
  | i + 1, o, h1, h2, c, hc => by
    unfold lvo at hc
    split at hc
    · rename_i hq
      rcases List.mem_append.mp hc with q | q
      · exact h2 o (by omega) (by omega) hq c q
      · exact lvo_all i (o + 1) h1 (fun x a1 a2 => h2 x (by omega) (by omega)) c q
    · exact lvo_all i (o + 1) h1 (fun x a1 a2 => h2 x (by omega) (by omega)) c hc
theorem lvs_row {E : Nat} {g : Nat → Nat → Bool} (hE : E ≤ 7) : ∀ (j : Nat) (m : Nat → Int32) (M R : Nat) (c : Nat × Nat), c ∈ lvs E g j m M R → R * 10 ^ j ≤ c.2 ∧ c.2 < (R + 1) * 10 ^ j
  | 0, m, M, R, c, hc => by
    unfold lvs at hc
    rw [List.mem_singleton.mp hc]
    simp
  | j + 1, m, M, R, c, hc => by
    have ih := lvs_row (g := g) hE j
    have key : ∀ x, x ≤ 9 → ∀ q, (10 * R + x) * 10 ^ j ≤ q → q < (10 * R + x + 1) * 10 ^ j → R * 10 ^ (j + 1) ≤ q ∧ q < (R + 1) * 10 ^ (j + 1) := fun x hx q h1 h2 => by
      rw [Nat.pow_succ]
      have e1 : R * (10 ^ j * 10) = (10 * R) * 10 ^ j := by
        rw [Nat.mul_comm (10 ^ j) 10, ← Nat.mul_assoc, Nat.mul_comm R 10]
      have e2 : (R + 1) * (10 ^ j * 10) = (10 * R + 10) * 10 ^ j := by
        rw [Nat.mul_comm (10 ^ j) 10, ← Nat.mul_assoc, Nat.mul_comm (R + 1) 10]
        rfl
      rw [e1, e2]
      have a1 := Nat.mul_le_mul_right (10 ^ j) (show 10 * R ≤ 10 * R + x by omega)
      have a2 := Nat.mul_le_mul_right (10 ^ j) (show 10 * R + x + 1 ≤ 10 * R + 10 by omega)
      omega
    refine lvo_all (P := fun c => R * 10 ^ (j + 1) ≤ c.2 ∧ c.2 < (R + 1) * 10 ^ (j + 1)) E 0 (fun c hc => ?_) (fun x _ hx _ c hc => ?_) c hc
    · have q := ih m M (10 * R + 9) c hc
      exact key 9 (by omega) _ q.1 q.2
    · have q := ih _ (M + 1) (10 * R + x) c hc
      exact key x (by omega) _ q.1 q.2
/-- how many of the last j ends go with any -/
def opn (E : Nat) (g : Nat → Nat → Bool) : Nat → Nat
  | 0 => 0
  | j + 1 => opn E g j + (if bF (g (E - (j + 1))) E = 0 then 0 else 1)
theorem opn_le {E : Nat} {g : Nat → Nat → Bool} : ∀ j, opn E g j ≤ j
  | 0 => Nat.le_refl 0
  | j + 1 => by
    have := opn_le (E := E) (g := g) j
    unfold opn
    split <;> omega
theorem lvs_opn {E : Nat} {g : Nat → Nat → Bool} : ∀ (j : Nat) (m : Nat → Int32) (M R : Nat) (c : Nat × Nat), j ≤ E → c ∈ lvs E g j m M R → c.1 ≤ M + opn E g j
  | 0, m, M, R, c, _, hc => by
    unfold lvs at hc
    rw [List.mem_singleton.mp hc]
    simp [opn]
  | j + 1, m, M, R, c, hj, hc => by
    have ih := lvs_opn (E := E) (g := g) j
    refine lvo_all (P := fun c => c.1 ≤ M + opn E g (j + 1)) E 0 (fun c hc => ?_) (fun x _ hx hq c hc => ?_) c hc
    · have q := ih m M (10 * R + 9) c (by omega) hc
      have : opn E g j ≤ opn E g (j + 1) := by
        show _ ≤ opn E g j + _
        omega
      show c.1 ≤ _
      omega
    · have q := ih _ (M + 1) (10 * R + x) c (by omega) hc
      have hx' : x < E := by omega
      have hg : g (E - (j + 1)) x = true := by
        rw [Bool.and_eq_true] at hq
        exact hq.1
      have hne : ¬ bF (g (E - (j + 1))) E = 0 := fun z => by
        have := bF_tb (g (E - (j + 1))) x E
        rw [z, hg] at this
        simp [hx'] at this
      have e : opn E g (j + 1) = opn E g j + 1 := by
        show opn E g j + (if bF (g (E - (j + 1))) E = 0 then 0 else 1) = _
        rw [if_neg hne]
      show c.1 ≤ _
      omega
/-- ends that nobody is ahead of, and not sold -/
def hds (E : Nat) (m : Nat → Int32) : Nat := sumF (fun d => if (!(sdF m d) && decide (m (21 + d) = -1)) = true then 1 else 0) E
theorem jn_28 {m : Nat → Int32} {a b : Nat} (ha : a < 7) (hb : b < 7) : jnF m a b 28 = m 28 ∨ b = 7 := by
  left
  unfold jnF
  rw [pk_un (by omega), pk_un (by omega)]
theorem jn_at {m : Nat → Int32} {a b j : Nat} (h1 : j ≠ 14 + a) (h2 : j ≠ 21 + b) : jnF m a b j = m j := by
  unfold jnF
  rw [pk_un h2, pk_un h1]
theorem wf_jn {E : Nat} {m : Nat → Int32} (hE : E ≤ 7) (hw : wfL E m) {a b : Nat} (ha : a < E) (hb : b < E) (ho : opF m a b = true) : wfL E (jnF m a b) := by
  refine (wf_join (m' := jnF m a b) hE hw ha hb ho ?_ ?_ ?_).1
  · unfold jnF
    rw [pk_un (by omega), pk_us]
  · unfold jnF
    rw [pk_us]
  · intro j h1 h2 _
    exact jn_at h1 h2
theorem sumF_ge : ∀ (n : Nat) (f : Nat → Nat) (d : Nat), d < n → f d ≤ sumF f n
  | 0, _, _, h => absurd h (by omega)
  | n + 1, f, d, h => by
    unfold sumF
    by_cases e : d = n
    · subst e
      omega
    · have := sumF_ge n f d (by omega)
      omega
theorem hds_jn {E : Nat} {m : Nat → Int32} (hE : E ≤ 7) (hw : wfL E m) {a b : Nat} (ha : a < E) (hb : b < E) (ho : opF m a b = true) : hds E m = hds E (jnF m a b) + 1 ∧ 1 ≤ hds E (jnF m a b) := by
  obtain ⟨o1, o2, o3, o4, o5, o6⟩ := op_ex ho
  have e28 : jnF m a b 28 = m 28 := jn_at (by omega) (by omega)
  have sd : ∀ d, sdF (jnF m a b) d = sdF m d := fun d => by
    unfold sdF
    rw [e28]
  obtain ⟨t1, t2, t3, t4⟩ := wf_tw hE hw ha
  obtain ⟨r, c1, c2, c3, c4, c5⟩ := tw_cons hE hw ha
  have hh : hdF m a < E := hd_lt hE hw ha
  have h21 : m (21 + hdF m a) = -1 := t1.2.1 (hdF m a) (by rw [c1]; rfl)
  have hsd : sdF m (hdF m a) = false := by
    have := t4 (hdF m a) (by rw [c1]; exact List.mem_cons_self ..)
    unfold sdF at *
    rw [← this, o2]
  constructor
  · refine sumF_1 E _ _ b 1 hb (fun i hi hib => ?_) ?_
    · rw [sd, jn_at (by omega) (by omega)]
    · have e1 : jnF m a b (21 + b) = nI a := by
        unfold jnF
        rw [pk_us]
      rw [o3, o5, sd, o3, e1]
      have : ¬ nI a = -1 := nI_m1 (by omega)
      simp [this]
  · have q := sumF_ge E (fun d => if (!(sdF (jnF m a b) d) && decide (jnF m a b (21 + d) = -1)) = true then 1 else 0) (hdF m a) hh
    rw [sd, jn_at (by omega) (by omega), h21, hsd] at q
    exact q
theorem lvs_hds {E : Nat} {g : Nat → Nat → Bool} (hE : E ≤ 7) : ∀ (j : Nat) (m : Nat → Int32) (M R : Nat) (c : Nat × Nat), j ≤ E → wfL E m → (M = 0 ∨ 1 ≤ hds E m) → c ∈ lvs E g j m M R → c.1 = 0 ∨ c.1 + 1 ≤ M + hds E m
  | 0, m, M, R, c, _, hw, h0, hc => by
    unfold lvs at hc
    rw [List.mem_singleton.mp hc]
    show M = 0 ∨ M + 1 ≤ M + hds E m
    omega
  | j + 1, m, M, R, c, hj, hw, h0, hc => by
    have ih := lvs_hds (g := g) hE j
    refine lvo_all (P := fun c => c.1 = 0 ∨ c.1 + 1 ≤ M + hds E m) E 0 (fun c hc => ?_) (fun x _ hx hq c hc => ?_) c hc
    · exact ih m M (10 * R + 9) c (by omega) hw h0 hc
    · rw [Bool.and_eq_true] at hq
      have hd := hds_jn hE hw (a := E - (j + 1)) (b := x) (by omega) (by omega) hq.2
      have q := ih _ (M + 1) (10 * R + x) c (by omega) (wf_jn hE hw (by omega) (by omega) hq.2) (Or.inr hd.2) hc
      omega
/-- what is cut off would change nothing -/
theorem lvs_stay {E j M R : Nat} {g : Nat → Nat → Bool} {m : Nat → Int32} {s : Nat × Nat} (hE : E ≤ 7) (hrow : s.2 < R * 10 ^ j) (hall : ∀ c, c ∈ lvs E g j m M R → c.1 ≤ s.1) : (lvs E g j m M R).foldl bet (some s) = some s := by
  refine bet_stay _ (fun c hc => ?_)
  have h1 := hall c hc
  have h2 := (lvs_row hE j m M R c hc).1
  omega
/-- the row that is told is below all that come -/
def bel (s : Option (Nat × Nat)) (k : Nat) : Prop := ∀ c, s = some c → c.2 < k
theorem bel_mono {s : Option (Nat × Nat)} {k k' : Nat} (h : bel s k) (hk : k ≤ k') : bel s k' := fun c hc => Nat.lt_of_lt_of_le (h c hc) hk
theorem bel_lvs {E j M R : Nat} {g : Nat → Nat → Bool} {m : Nat → Int32} {s : Option (Nat × Nat)} (hE : E ≤ 7) (h : bel s (R * 10 ^ j)) : bel ((lvs E g j m M R).foldl bet s) ((R + 1) * 10 ^ j) := fun c hc => by
  rcases bet_mem _ _ _ hc with q | q
  · have := h c q
    have := Nat.mul_le_mul_right (10 ^ j) (show R ≤ R + 1 by omega)
    omega
  · exact (lvs_row hE j m M R c q).2
theorem p10 (R j : Nat) : R * 10 ^ (j + 1) = (10 * R) * 10 ^ j := by
  rw [Nat.pow_succ, Nat.mul_comm (10 ^ j) 10, ← Nat.mul_assoc, Nat.mul_comm R 10]
def eK (S : SS) : Option (Nat × Nat) → Prop
  | none => gi S 29 10 = -1
  | some c => gi S 29 10 = nI c.1 ∧ gi S 29 11 = nI c.2
theorem eK_c {S S' : SS} (h : S'.1 29 = S.1 29) : ∀ {s : Option (Nat × Nat)}, eK S s → eK S' s
  | none, q => by
    unfold eK gi at *
    rw [h]
    exact q
  | some c, q => by
    unfold eK gi at *
    rw [h]
    exact q
theorem k_b1 : ∀ B, B < 8 → ∀ c, c < 100 → (nI c < nI B - 1 ↔ c + 1 < B) := by decide +kernel
/-- what the class's search stands on -/
def knC (E B : Nat) (g : Nat → Nat → Bool) (S : SS) : Prop := gi S 18 4 = nI E ∧ (∀ x, x < E → S.1 35 x = nI (bF (g x) E)) ∧ (∀ x, x ≤ E → S.1 36 x = nI (opn E g (E - x))) ∧ gi S 29 9 = nI B - 1
theorem knC.f {E B : Nat} {g : Nat → Nat → Bool} {S S' : SS} (h : knC E B g S) (h18 : S'.1 18 = S.1 18) (h35 : S'.1 35 = S.1 35) (h36 : S'.1 36 = S.1 36) (h29 : S'.1 29 9 = S.1 29 9) : knC E B g S' := by
  unfold knC gi at *
  rw [h18, h35, h36, h29]
  exact h
theorem k_10 (R x : Nat) : nI R * 10 + nI x = nI (10 * R + x) := by
  show nI R * nI 10 + nI x = _
  rw [pk_mul, nI_add, Nat.mul_comm]
theorem k_10b (R x : Nat) : 10 * nI R + nI x = nI (10 * R + x) := by
  show nI 10 * nI R + nI x = _
  rw [pk_mul, nI_add]
theorem jn_back {m : Nat → Int32} {a b : Nat} (h1 : m (14 + a) = -1) (h2 : m (21 + b) = -1) (ha : a < 7) : upd (upd (jnF m a b) (14 + a) (-1)) (21 + b) (-1) = m := by
  funext j
  unfold jnF
  by_cases e1 : j = 21 + b
  · rw [e1, pk_us, h2]
  · rw [pk_un e1]
    by_cases e2 : j = 14 + a
    · rw [e2, pk_us, h1]
    · rw [pk_un e2, pk_un e1, pk_un e2]
theorem c_kn {E B N : Nat} {g : Nat → Nat → Bool} (hN : 9 ≤ N) (hE : E ≤ 7) (hB : B ≤ 7) : ∀ (j d : Nat) (S : SS) (m : Nat → Int32) (M R : Nat) (s : Option (Nat × Nat)), j ≤ E → j < d → knC E B g S → Lv E 30 S m → wfL E m → M + j ≤ E → M + hds E m = B → (M = 0 ∨ 1 ≤ hds E m) → eK S s → (∀ c, s = some c → c.1 ≤ 7) → bel s (R * 10 ^ j) → ∃ S2, fX0_chooseKnot N d S (nI (E - j)) (nI M) (nI R) = some S2 ∧ Fr [29, 30, 31, 32, 33, 34] S S2 ∧ S2.1 29 9 = S.1 29 9 ∧ Lv E 30 S2 m ∧ eK S2 ((lvs E g j m M R).foldl bet s) ∧ ∀ c, (lvs E g j m M R).foldl bet s = some c → c.1 ≤ 7 := by
  intro j
  induction j with
  | zero =>
    intro d S m M R s hj hd hC hv hw hMj hB1 hB2 he hs hb
    obtain ⟨d, rfl⟩ : ∃ q, d = q + 1 := ⟨d - 1, by omega⟩
    show ∃ S2, fX0_chooseKnot_b N (fX0_chooseKnot N d) S (nI (E - 0)) (nI M) (nI R) = some S2 ∧ _
    unfold fX0_chooseKnot_b
    rw [Nat.sub_zero, hC.1, if_neg (nI_nlt (Nat.le_refl _) (by omega)), ck_in (by omega) (by omega), ga_nI (by omega), hC.2.2.1 E (Nat.le_refl _), Nat.sub_self, show opn E g 0 = 0 from rfl, nI_add, Nat.add_zero]
    have fin : ∃ S2, fX0_chooseKnot_j46 N (fX0_chooseKnot N d) (nI E) (nI M) (nI R) S = some S2 ∧ Fr [29, 30, 31, 32, 33, 34] S S2 ∧ S2.1 29 9 = S.1 29 9 ∧ Lv E 30 S2 m ∧ eK S2 (some (M, R)) := by
      unfold fX0_chooseKnot_j46
      rw [if_pos hC.1.symm, lt_s9, lt_s9]
      have fr : Fr [29] S (pj (pj S 29 10 (nI M)) 29 11 (nI R)) := (Fr.pj (by decide)).tr (Fr.pj (by decide))
      exact ⟨_, rfl, fr.mono (by decide), rfl, hv.f fr (by decide), by rw [gi_pj, gi_pj]; rfl, by rw [gi_pj]; rfl⟩
    show ∃ S2, _ ∧ _ ∧ _ ∧ _ ∧ eK S2 (bet s (M, R)) ∧ ∀ c, bet s (M, R) = some c → c.1 ≤ 7
    cases s with
    | none =>
      have he' : gi S 29 10 = -1 := he
      rw [he', if_neg (show ¬ nI M ≤ -1 from fun z => by
        have z1 := Int32.le_iff_toInt_le.mp z
        rw [nI_toInt (by omega)] at z1
        have z2 : (-1 : Int32).toInt = -1 := by decide
        omega), if_pos rfl]
      obtain ⟨S2, z1, z2, z3, z4, z5⟩ := fin
      exact ⟨S2, z1, z2, z3, z4, z5, fun c hc => by cases hc; show M ≤ 7; omega⟩
    | some c =>
      have q := hs c rfl
      have q2 := hb c rfl
      rw [he.1]
      by_cases h1 : M ≤ c.1
      · rw [if_pos (nI_le h1 (by omega))]
        have e : bet (some c) (M, R) = some c := by
          simp only [bet]
          rw [if_neg]
          show ¬ (c.1 < M ∨ M = c.1 ∧ R < c.2)
          rw [Nat.pow_zero, Nat.mul_one] at q2
          omega
        rw [e]
        exact ⟨S, rfl, Fr.rf, rfl, hv, he, hs⟩
      · have e : bet (some c) (M, R) = some (M, R) := by
          simp only [bet]
          rw [if_pos (Or.inl (by show c.1 < M; omega))]
        have hlt : c.1 + 1 < B := by omega
        rw [if_neg (nI_ge (by omega) (by omega)), if_neg (nI_m1 (by omega)), hC.2.2.2, if_pos ((k_b1 B (by omega) c.1 (by omega)).mpr hlt), e]
        obtain ⟨S2, z1, z2, z3, z4, z5⟩ := fin
        exact ⟨S2, z1, z2, z3, z4, z5, fun c hc => by cases hc; show M ≤ 7; omega⟩
  | succ j ih =>
    intro d S m M R s hj hd hC hv hw hMj hB1 hB2 he hs hb
    obtain ⟨d, rfl⟩ : ∃ q, d = q + 1 := ⟨d - 1, by omega⟩
    have hop := opn_le (E := E) (g := g) (j + 1)
    have heE : E - (j + 1) < E := by omega
    show ∃ S2, fX0_chooseKnot_b N (fX0_chooseKnot N d) S (nI (E - (j + 1))) (nI M) (nI R) = some S2 ∧ _
    unfold fX0_chooseKnot_b
    rw [hC.1, if_neg (nI_nlt (by omega) (by omega)), ck_in (by omega) (by omega), ga_nI (by omega), hC.2.2.1 _ (Nat.le_of_lt heE), show E - (E - (j + 1)) = j + 1 by omega, nI_add]
    have seven : ∀ c, (lvs E g (j + 1) m M R).foldl bet s = some c → c.1 ≤ 7 := fun c hc => by
      rcases bet_mem _ _ _ hc with q | q
      · exact hs c q
      · have := lvs_opn (j + 1) m M R c hj q
        omega
    have stay : ∀ c, s = some c → (∀ l, l ∈ lvs E g (j + 1) m M R → l.1 ≤ c.1) → ∃ S2, some S = some S2 ∧ Fr [29, 30, 31, 32, 33, 34] S S2 ∧ S2.1 29 9 = S.1 29 9 ∧ Lv E 30 S2 m ∧ eK S2 ((lvs E g (j + 1) m M R).foldl bet s) ∧ ∀ c, (lvs E g (j + 1) m M R).foldl bet s = some c → c.1 ≤ 7 := fun c hc hl => by
      refine ⟨S, rfl, Fr.rf, rfl, hv, ?_, seven⟩
      rw [hc, lvs_stay hE (hb c hc) hl, ← hc]
      exact he
    have go : ∃ S2, fX0_chooseKnot_j46 N (fX0_chooseKnot N d) (nI (E - (j + 1))) (nI M) (nI R) S = some S2 ∧ Fr [29, 30, 31, 32, 33, 34] S S2 ∧ S2.1 29 9 = S.1 29 9 ∧ Lv E 30 S2 m ∧ eK S2 ((lvs E g (j + 1) m M R).foldl bet s) ∧ ∀ c, (lvs E g (j + 1) m M R).foldl bet s = some c → c.1 ≤ 7 := by
      unfold fX0_chooseKnot_j46
      rw [hC.1, if_neg (fun z => by
        have := (nI_eq (by omega) (by omega)).mp z
        omega)]
      have loop : ∀ (i o n : Nat) (S' : SS) (s' : Option (Nat × Nat)), Fr [29, 30, 31, 32, 33, 34] S S' → S'.1 29 9 = S.1 29 9 → Lv E 30 S' m → eK S' s' → (∀ c, s' = some c → c.1 ≤ 7) → bel s' ((10 * R + o) * 10 ^ j) → o + i = E → i < n → ∃ S2, fX0_chooseKnot_l71 N (fX0_chooseKnot N d) n (nI (E - (j + 1))) (nI M) (nI R) (nI o) S' = some S2 ∧ Fr [29, 30, 31, 32, 33, 34] S S2 ∧ S2.1 29 9 = S.1 29 9 ∧ Lv E 30 S2 m ∧ eK S2 ((lvo (E - (j + 1)) g (lvs E g j) m M R i o).foldl bet s') := by
        intro i
        induction i with
        | zero =>
          intro o n S' s' fS h29 hv' he' hs' hb' hi hn
          obtain ⟨n, rfl⟩ : ∃ q, n = q + 1 := ⟨n - 1, by omega⟩
          have hC' : knC E B g S' := hC.f (fS.row (by decide)) (fS.row (by decide)) (fS.row (by decide)) h29
          unfold fX0_chooseKnot_l71
          rw [hC'.1, if_pos (nI_le (by omega) (by omega)), nI_1, show (9 : Int32) = nI 9 from rfl, k_10, show E - (j + 1) + 1 = E - j by omega]
          obtain ⟨S2, z1, z2, z3, z4, z5, z6⟩ := ih d S' m M (10 * R + 9) s' (by omega) (by omega) hC' hv' hw (by omega) hB1 hB2 he' hs' (bel_mono hb' (Nat.mul_le_mul_right _ (by omega)))
          rw [bd_s z1]
          exact ⟨S2, rfl, fS.tr z2, z3.trans h29, z4, z5⟩
        | succ i ihi =>
          intro o n S' s' fS h29 hv' he' hs' hb' hi hn
          obtain ⟨n, rfl⟩ : ∃ q, n = q + 1 := ⟨n - 1, by omega⟩
          have ho : o < E := by omega
          have hC' : knC E B g S' := hC.f (fS.row (by decide)) (fS.row (by decide)) (fS.row (by decide)) h29
          have hbit := (k_sr _ (bF_128 (g (E - (j + 1))) hE) o (by omega)).1
          rw [bF_tb] at hbit
          simp only [ho, decide_true, Bool.true_and] at hbit
          have hb2 : bel s' ((10 * R + (o + 1)) * 10 ^ j) := bel_mono hb' (Nat.mul_le_mul_right _ (by omega))
          unfold fX0_chooseKnot_l71 lvo
          rw [hC'.1, if_neg (nI_ge (by omega) (by omega)), ck_in (by omega) (by omega), ga_nI (by omega), hC'.2.1 _ heE]
          simp only [lt_s9, nI_1]
          cases hg : g (E - (j + 1)) o
          · rw [if_neg (fun z => by rw [hbit.mp z] at hg; cases hg), Bool.false_and]
            exact ihi (o + 1) n S' s' fS h29 hv' he' hs' hb2 (by omega) (by omega)
          · rw [if_pos (hbit.mpr hg), Bool.true_and, bd_s (c_open hN hE hv' hw heE ho)]
            cases hq : opF m (E - (j + 1)) o
            · rw [ifi0]
              exact ihi (o + 1) n S' s' fS h29 hv' he' hs' hb2 (by omega) (by omega)
            · rw [ifi1, if_pos rfl]
              obtain ⟨S1, x1, x2, x3⟩ := hv'.join (N := N) hE heE ho
              have hC1 : knC E B g S1 := hC'.f (x2.row (by decide)) (x2.row (by decide)) (x2.row (by decide)) (by rw [x2.row (by decide)])
              have hd1 := hds_jn hE hw heE ho hq
              obtain ⟨S2, z1, z2, z3, z4, z5, z6⟩ := ih d S1 (jnF m (E - (j + 1)) o) (M + 1) (10 * R + o) s' (by omega) (by omega) hC1 x3 (wf_jn hE hw heE ho hq) (by omega) (by omega) (Or.inr hd1.2) (eK_c (x2.row (by decide)) he') hs' hb'
              obtain ⟨S3, y1, y2, y3⟩ := z4.part (N := N) hE heE ho
              obtain ⟨q1, q2, q3, q4, q5, q6⟩ := op_ex hq
              rw [jn_back q4 q5 (by omega)] at y3
              rw [bd_s x1, k_10, show E - (j + 1) + 1 = E - j by omega, bd_s z1, bd_s y1, List.foldl_append]
              refine ihi (o + 1) n S3 _ (((fS.tr (x2.mono (by decide))).tr z2).tr (y2.mono (by decide))) ?_ y3 (eK_c (y2.row (by decide)) z5) z6 ?_ (by omega) (by omega)
              · rw [y2.row (by decide), z3, x2.row (by decide), h29]
              · have := bel_lvs (E := E) (j := j) (M := M + 1) (R := 10 * R + o) (g := g) (m := jnF m (E - (j + 1)) o) hE hb'
                exact this
      obtain ⟨S2, z1, z2, z3, z4, z5⟩ := loop E 0 N S s Fr.rf rfl hv he hs (by rw [Nat.add_zero, ← p10]; exact hb) (by omega) (by omega)
      exact ⟨S2, z1, z2, z3, z4, z5, seven⟩
    cases s with
    | none =>
      have he' : gi S 29 10 = -1 := he
      rw [he', if_neg (show ¬ nI (M + opn E g (j + 1)) ≤ -1 from fun z => by
        have z1 := Int32.le_iff_toInt_le.mp z
        rw [nI_toInt (by omega)] at z1
        have z2 : (-1 : Int32).toInt = -1 := by decide
        omega), if_pos rfl]
      exact go
    | some c =>
      have q := hs c rfl
      rw [he.1]
      by_cases h1 : M + opn E g (j + 1) ≤ c.1
      · rw [if_pos (nI_le h1 (by omega))]
        exact stay c rfl (fun l hl => by
          have := lvs_opn (j + 1) m M R l hj hl
          omega)
      · rw [if_neg (nI_ge (by omega) (by omega)), if_neg (nI_m1 (by omega)), hC.2.2.2]
        by_cases h2 : c.1 + 1 < B
        · rw [if_pos ((k_b1 B (by omega) c.1 (by omega)).mpr h2)]
          exact go
        · rw [if_neg (fun z => h2 ((k_b1 B (by omega) c.1 (by omega)).mp z))]
          exact stay c rfl (fun l hl => by
            have := lvs_hds hE (j + 1) m M R l hj hw hB2 hl
            omega)
