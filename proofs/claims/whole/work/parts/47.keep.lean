/-! rows kept: congruence, writing and reading a row, keep -/
theorem chn_c {bh ah bh' ah' : Nat → Int32} : ∀ {t : List Nat}, (∀ d, d ∈ t → bh' d = bh d ∧ ah' d = ah d) → chn bh ah t → chn bh' ah' t
  | [], _, h => h
  | [d], e, h => (e d (List.mem_cons_self ..)).1.trans h
  | d :: f :: r, e, h => ⟨(e d (List.mem_cons_self ..)).1.trans h.1, (e f (List.mem_cons_of_mem _ (List.mem_cons_self ..))).2.trans h.2.1, chn_c (fun x hx => e x (List.mem_cons_of_mem _ hx)) h.2.2⟩
theorem tls_c {E : Nat} {bh ah bh' ah' : Nat → Int32} {L : List (List Nat)} (e : ∀ d, d < E → bh' d = bh d ∧ ah' d = ah d) (h : tls E bh ah L) : tls E bh' ah' L := by
  refine ⟨h.1, h.2.1, fun t ht => ⟨?_, fun d hd => ?_⟩⟩
  · exact chn_c (fun d hd => e d ((h.2.1 d).mp (List.mem_flatten.mpr ⟨t, ht, hd⟩))) (h.2.2 t ht).1
  · have hm : d ∈ t := List.mem_of_mem_head? (by rw [hd]; rfl)
    rw [(e d ((h.2.1 d).mp (List.mem_flatten.mpr ⟨t, ht, hm⟩))).2]
    exact (h.2.2 t ht).2 d hd
theorem wf_c {E : Nat} {m m' : Nat → Int32} (hE : E ≤ 7) (e : ∀ j, relv E j → m' j = m j) (h : wfL E m) : wfL E m' := by
  obtain ⟨h1, ⟨L, h2, h2'⟩, h3, h4, h5, h6, h8⟩ := h
  have e28 := e 28 ⟨fun q => absurd q (by omega), by omega⟩
  have e29 := e 29 ⟨fun q => absurd q (by omega), by omega⟩
  have e30 := e 30 ⟨fun q => absurd q (by omega), by omega⟩
  have e31 := e 31 ⟨fun q => absurd q (by omega), by omega⟩
  have e32 := e 32 ⟨fun q => absurd q (by omega), by omega⟩
  refine ⟨fun d hd => ?_, ⟨L, tls_c (fun d hd => ⟨e _ ⟨fun _ => by omega, by omega⟩, e _ ⟨fun _ => by omega, by omega⟩⟩) h2, ?_⟩, ?_, ?_, ?_, ?_, ?_⟩
  · rw [e d ⟨fun _ => by omega, by omega⟩, e (7 + d) ⟨fun _ => by omega, by omega⟩]
    exact h1 d hd
  · rw [e28]
    exact h2'
  · rw [e28]
    exact h3
  · rw [e29]
    exact h4
  · rw [e30]
    exact h5
  · rw [e31]
    exact h6
  · rw [e32]
    exact h8
theorem day_c {m m' : Nat → Int32} (e : m' 32 = m 32) : dayN m' = dayN m := by
  unfold dayN
  rw [e]
theorem log_c {ring m m' : Nat → Int32} (e : ∀ j, 32 ≤ j → j < 214 → m' j = m j) (h : logE ring m) : logE ring m' := by
  unfold logE
  rw [day_c (e 32 (by omega) (by omega)), e 33 (by omega) (by omega)]
  refine ⟨h.1, fun i w hi hw => ?_⟩
  rw [h.2 i w hi hw]
  have hM : min 60 (dayN m) ≤ 60 := Nat.min_le_left _ _
  exact (e _ (by omega) (by omega)).symm
theorem stE_c {E : Nat} {ring c c' m m' : Nat → Int32} (hE : E ≤ 7) (ec : ∀ j, relv E j → c' j = c j) (em : ∀ j, j < 214 → m' j = m j) (h : stE E ring c m) : stE E ring c' m' := ⟨fun j hj => (ec j hj).trans ((h.1 j hj).trans (em j (by have := hj.2; omega)).symm), wf_c hE (fun j hj => em j (by have := hj.2; omega)) h.2.1, log_c (fun j _ h2 => em j h2) h.2.2⟩
/-- the class's row out of its State -/
theorem now_of {E : Nat} {S : SS} {m : Nat → Int32} (h : Lv E 18 S m) : ∀ j, relv E j → nowC S j = m j := by
  obtain ⟨h1, h2, h3, h4, h5, h6, h7⟩ := h
  intro j hj
  have hj2 := hj.2
  unfold nowC
  by_cases c1 : j < 7
  · rw [if_pos c1]
    exact (h2 j (by have := hj.1 (by omega); omega)).1
  · rw [if_neg c1]
    by_cases c2 : j < 14
    · rw [if_pos c2]
      have := (h2 (j - 7) (by have := hj.1 (by omega); omega)).2.1
      rw [show 7 + (j - 7) = j by omega] at this
      exact this
    · rw [if_neg c2]
      by_cases c3 : j < 21
      · rw [if_pos c3]
        have := (h2 (j - 14) (by have := hj.1 (by omega); omega)).2.2.1
        rw [show 14 + (j - 14) = j by omega] at this
        exact this
      · rw [if_neg c3]
        by_cases c4 : j < 28
        · rw [if_pos c4]
          have := (h2 (j - 21) (by have := hj.1 (by omega); omega)).2.2.2
          rw [show 21 + (j - 21) = j by omega] at this
          exact this
        · rw [if_neg c4]
          rcases (by omega : j = 28 ∨ j = 29 ∨ j = 30 ∨ j = 31 ∨ j = 32) with rfl | rfl | rfl | rfl | rfl
          · exact h3
          · exact h4
          · exact h5
          · exact h6
          · exact h7
theorem cpb_t {a b c n0 n1 : Nat} (ha : a < 2 ^ 31) (hb : b < 2 ^ 31) (hc : c < 2 ^ 31) (h0 : a + c ≤ n0) (h1 : b + c ≤ n1) : cpb (nI a) (nI b) (nI c) n0 n1 = true := by
  unfold cpb
  rw [nI_clamp ha, nI_clamp hb, nI_clamp hc]
  simp [nI_pos ha, nI_pos hb, nI_pos hc, h0, h1]
theorem cp_snd {S : SS} {k0 k1 : Nat} {sp dp n : Int32} : (cp S k0 sp k1 dp n).2 = S.2 := rfl
theorem row_cp {S : SS} {k0 k1 a b c k : Nat} (ha : a < 2 ^ 31) (hb : b < 2 ^ 31) (hc : c < 2 ^ 31) : (cp S k0 (nI a) k1 (nI b) (nI c)).1 k = if k = k1 then va_cpy (S.1 k0) (S.1 k1) a b c else S.1 k := by
  unfold cp
  rw [row_pr, nI_clamp ha, nI_clamp hb, nI_clamp hc]
theorem c_write {N q p L : Nat} {S : SS} (hq : q ≠ 18 ∧ q ≠ 19 ∧ q ≠ 20 ∧ q ≠ 21 ∧ q ≠ 22) (hL : aln S.2.2 q = L) (hp : p + 33 ≤ L) (hL2 : L < 2 ^ 30) : ∃ S2, fX8_writeTo N S 18 q (nI p) = some S2 ∧ Fr [q] S S2 ∧ ∀ j, S2.1 q j = if p ≤ j ∧ j < p + 33 then nowC S (j - p) else S.1 q j := by
  have e33 : Int32.ofNat L - 33 = nI (L - 33) := pk_sub (a := L) (b := 33) (by omega)
  unfold fX8_writeTo
  simp only [lt_s9, cp_snd, snd_pa]
  rw [hL, if_neg (nI_pos (by omega)), e33, if_pos (nI_le (by omega) (by omega)), show (0 : Int32) = nI 0 from rfl, show (7 : Int32) = nI 7 from rfl, show (14 : Int32) = nI 14 from rfl, show (21 : Int32) = nI 21 from rfl, show (28 : Int32) = nI 28 from rfl, nI_add, nI_add, nI_add, nI_add, show (1 : Int32) = nI 1 from rfl, show (2 : Int32) = nI 2 from rfl, show (3 : Int32) = nI 3 from rfl, show (4 : Int32) = nI 4 from rfl, nI_add, nI_add, nI_add, nI_add]
  rw [ck_t (cpb_t (by omega) (by omega) (by omega) (by omega) (by omega)), ck_t (cpb_t (by omega) (by omega) (by omega) (by omega) (by omega)), ck_t (cpb_t (by omega) (by omega) (by omega) (by omega) (by omega)), ck_t (cpb_t (by omega) (by omega) (by omega) (by omega) (by omega)), ck_in (by omega) (by omega), ck_in (by omega) (by omega), ck_in (by omega) (by omega), ck_in (by omega) (by omega), ck_in (by omega) (by omega)]
  obtain ⟨q1, q2, q3, q4, q5⟩ := hq
  refine ⟨_, rfl, ?_, fun j => ?_⟩
  · exact ((((((((Fr.cp (by simp)).tr (Fr.cp (by simp))).tr (Fr.cp (by simp))).tr (Fr.cp (by simp))).tr (Fr.pa (by simp))).tr (Fr.pa (by simp))).tr (Fr.pa (by simp))).tr (Fr.pa (by simp))).tr (Fr.pa (by simp))
  · have g : ∀ (A : SS) (k : Nat) (x v : Int32) (i : Nat), k ≠ q → gi (pa A q x v) k i = gi A k i := fun A k x v i hk => by
      unfold gi
      rw [row_pa, if_neg hk]
    have g2 : ∀ (A : SS) (k0 k : Nat) (a b c : Int32) (i : Nat), k ≠ q → gi (cp A k0 a q b c) k i = gi A k i := fun A k0 k a b c i hk => by
      unfold gi cp
      rw [row_pr, if_neg hk]
    simp only [g _ 18 _ _ _ (Ne.symm q1), g2 _ _ 18 _ _ _ _ (Ne.symm q1)]
    simp only [row_pa, if_true]
    have r1 : ∀ (A : SS) (k0 b : Nat), b < 2 ^ 31 → (cp A k0 (nI 0) q (nI b) (nI 7)).1 q = va_cpy (A.1 k0) (A.1 q) 0 b 7 := fun A k0 b hb => by
      rw [row_cp (by omega) hb (by omega), if_pos rfl]
    have r2 : ∀ (A : SS) (k0 b k : Nat), k ≠ q → (cp A k0 (nI 0) q (nI b) (nI 7)).1 k = A.1 k := fun A k0 b k hk => by
      unfold cp
      rw [row_pr, if_neg hk]
    rw [r1 _ _ (p + 21) (by omega), r1 _ _ (p + 14) (by omega), r1 _ _ (p + 7) (by omega), r1 _ _ p (by omega)]
    rw [r2 _ _ _ (18 + 4) (by omega), r2 _ _ _ (18 + 4) (by omega), r2 _ _ _ (18 + 4) (by omega), r2 _ _ _ (18 + 3) (by omega), r2 _ _ _ (18 + 3) (by omega), r2 _ _ _ (18 + 2) (by omega)]
    rw [nI_clamp (by omega), nI_clamp (by omega), nI_clamp (by omega), nI_clamp (by omega), nI_clamp (by omega)]
    unfold nowC
    by_cases c5 : j = p + 28 + 4
    · subst c5
      rw [pk_us, if_pos (by omega), if_neg (by omega), if_neg (by omega), if_neg (by omega), if_neg (by omega)]
      exact congrArg (S.1 18) (show 9 = _ by omega)
    rw [pk_un c5]
    by_cases c4 : j = p + 28 + 3
    · subst c4
      rw [pk_us, if_pos (by omega), if_neg (by omega), if_neg (by omega), if_neg (by omega), if_neg (by omega)]
      exact congrArg (S.1 18) (show 8 = _ by omega)
    rw [pk_un c4]
    by_cases c3 : j = p + 28 + 2
    · subst c3
      rw [pk_us, if_pos (by omega), if_neg (by omega), if_neg (by omega), if_neg (by omega), if_neg (by omega)]
      exact congrArg (S.1 18) (show 7 = _ by omega)
    rw [pk_un c3]
    by_cases c2 : j = p + 28 + 1
    · subst c2
      rw [pk_us, if_pos (by omega), if_neg (by omega), if_neg (by omega), if_neg (by omega), if_neg (by omega)]
      exact congrArg (S.1 18) (show 6 = _ by omega)
    rw [pk_un c2]
    by_cases c1 : j = p + 28
    · subst c1
      rw [pk_us, if_pos (by omega), if_neg (by omega), if_neg (by omega), if_neg (by omega), if_neg (by omega)]
      exact congrArg (S.1 18) (show 5 = _ by omega)
    rw [pk_un c1]
    by_cases b4 : p + 21 ≤ j ∧ j < p + 21 + 7
    · rw [pk_cpy_in b4.1 b4.2, if_pos (by omega), if_neg (by omega), if_neg (by omega), if_neg (by omega), if_pos (by omega)]
      exact congrArg (S.1 22) (by omega)
    rw [pk_cpy_out (by omega)]
    by_cases b3 : p + 14 ≤ j ∧ j < p + 14 + 7
    · rw [pk_cpy_in b3.1 b3.2, if_pos (by omega), if_neg (by omega), if_neg (by omega), if_pos (by omega)]
      exact congrArg (S.1 21) (by omega)
    rw [pk_cpy_out (by omega)]
    by_cases b2 : p + 7 ≤ j ∧ j < p + 7 + 7
    · rw [pk_cpy_in b2.1 b2.2, if_pos (by omega), if_neg (by omega), if_pos (by omega)]
      exact congrArg (S.1 20) (by omega)
    rw [pk_cpy_out (by omega)]
    by_cases b1 : p ≤ j ∧ j < p + 7
    · rw [pk_cpy_in b1.1 b1.2, if_pos (by omega), if_pos (by omega)]
      exact congrArg (S.1 19) (by omega)
    rw [pk_cpy_out (by omega), if_neg (by omega)]
theorem c_read {N q p L : Nat} {S : SS} (hq : q ≠ 18 ∧ q ≠ 19 ∧ q ≠ 20 ∧ q ≠ 21 ∧ q ≠ 22) (hL : aln S.2.2 q = L) (hp : p + 33 ≤ L) (hL2 : L < 2 ^ 30) : ∃ S2, fX8_readFrom N S 18 q (nI p) = some S2 ∧ Fr [18, 19, 20, 21, 22] S S2 ∧ gi S2 18 4 = gi S 18 4 ∧ ∀ j, j < 33 → nowC S2 j = S.1 q (p + j) := by
  have e33 : Int32.ofNat L - 33 = nI (L - 33) := pk_sub (a := L) (b := 33) (by omega)
  obtain ⟨q1, q2, q3, q4, q5⟩ := hq
  unfold fX8_readFrom
  simp only [lt_s9, cp_snd, snd_pj]
  rw [hL, if_neg (nI_pos (by omega)), e33, if_pos (nI_le (by omega) (by omega)), show (0 : Int32) = nI 0 from rfl, show (7 : Int32) = nI 7 from rfl, show (14 : Int32) = nI 14 from rfl, show (21 : Int32) = nI 21 from rfl, show (28 : Int32) = nI 28 from rfl, nI_add, nI_add, nI_add, nI_add, show (1 : Int32) = nI 1 from rfl, show (2 : Int32) = nI 2 from rfl, show (3 : Int32) = nI 3 from rfl, show (4 : Int32) = nI 4 from rfl, nI_add, nI_add, nI_add, nI_add]
  rw [ck_t (cpb_t (by omega) (by omega) (by omega) (by omega) (by omega)), ck_t (cpb_t (by omega) (by omega) (by omega) (by omega) (by omega)), ck_t (cpb_t (by omega) (by omega) (by omega) (by omega) (by omega)), ck_t (cpb_t (by omega) (by omega) (by omega) (by omega) (by omega)), ck_in (by omega) (by omega), ck_in (by omega) (by omega), ck_in (by omega) (by omega), ck_in (by omega) (by omega), ck_in (by omega) (by omega)]
  have r2 : ∀ (A : SS) (a : Int32) (k1 k : Nat), k ≠ k1 → (cp A q a k1 (nI 0) (nI 7)).1 k = A.1 k := fun A a k1 k hk => by
    unfold cp
    rw [row_pr, if_neg hk]
  have r1 : ∀ (A : SS) (k1 b : Nat), b < 2 ^ 31 → (cp A q (nI b) k1 (nI 0) (nI 7)).1 k1 = va_cpy (A.1 q) (A.1 k1) b 0 7 := fun A k0 b hb => by
    rw [row_cp hb (by omega) (by omega), if_pos rfl]
  have rj : ∀ (A : SS) (i k : Nat) (v : Int32), k ≠ 18 → (pj A 18 i v).1 k = A.1 k := fun A i k v hk => by
    rw [row_pj, if_neg hk]
  refine ⟨_, rfl, ?_, rfl, fun j hj => ?_⟩
  · exact ((((((((Fr.cp (by simp)).tr (Fr.cp (by simp))).tr (Fr.cp (by simp))).tr (Fr.cp (by simp))).tr (Fr.pj (by simp))).tr (Fr.pj (by simp))).tr (Fr.pj (by simp))).tr (Fr.pj (by simp))).tr (Fr.pj (by simp))
  · have g : ∀ (A : SS) (i : Nat) (v : Int32) (x : Int32), ga (pj A 18 i v) q x = ga A q x := fun A i v x => by
      unfold ga
      rw [rj _ _ _ _ q1]
    have g2 : ∀ (A : SS) (a : Int32) (k1 : Nat) (x : Int32), q ≠ k1 → ga (cp A q a k1 (nI 0) (nI 7)) q x = ga A q x := fun A a k1 x hk => by
      unfold ga
      rw [r2 _ _ _ _ hk]
    simp only [g, g2 _ _ (18 + 1) _ q2, g2 _ _ (18 + 2) _ q3, g2 _ _ (18 + 3) _ q4, g2 _ _ (18 + 4) _ q5]
    rw [ga_nI (by omega), ga_nI (by omega), ga_nI (by omega), ga_nI (by omega), ga_nI (by omega)]
    unfold nowC
    by_cases c1 : j < 7
    · rw [if_pos c1, rj _ _ _ _ (by decide), rj _ _ _ _ (by decide), rj _ _ _ _ (by decide), rj _ _ _ _ (by decide), rj _ _ _ _ (by decide), r2 _ _ _ _ (by decide), r2 _ _ _ _ (by decide), r2 _ _ _ _ (by decide), r1 _ (18 + 1) p (by omega), pk_cpy_in (by omega) (by omega)]
      rfl
    rw [if_neg c1]
    by_cases c2 : j < 14
    · rw [if_pos c2, rj _ _ _ _ (by decide), rj _ _ _ _ (by decide), rj _ _ _ _ (by decide), rj _ _ _ _ (by decide), rj _ _ _ _ (by decide), r2 _ _ _ _ (by decide), r2 _ _ _ _ (by decide), r1 _ (18 + 2) (p + 7) (by omega), pk_cpy_in (by omega) (by omega), r2 _ _ _ _ q2]
      exact congrArg (S.1 q) (by omega)
    rw [if_neg c2]
    by_cases c3 : j < 21
    · rw [if_pos c3, rj _ _ _ _ (by decide), rj _ _ _ _ (by decide), rj _ _ _ _ (by decide), rj _ _ _ _ (by decide), rj _ _ _ _ (by decide), r2 _ _ _ _ (by decide), r1 _ (18 + 3) (p + 14) (by omega), pk_cpy_in (by omega) (by omega), r2 _ _ _ _ q3, r2 _ _ _ _ q2]
      exact congrArg (S.1 q) (by omega)
    rw [if_neg c3]
    by_cases c4 : j < 28
    · rw [if_pos c4, rj _ _ _ _ (by decide), rj _ _ _ _ (by decide), rj _ _ _ _ (by decide), rj _ _ _ _ (by decide), rj _ _ _ _ (by decide), r1 _ (18 + 4) (p + 21) (by omega), pk_cpy_in (by omega) (by omega), r2 _ _ _ _ q4, r2 _ _ _ _ q3, r2 _ _ _ _ q2]
      exact congrArg (S.1 q) (by omega)
    rw [if_neg c4]
    rcases (by omega : j = 28 ∨ j = 29 ∨ j = 30 ∨ j = 31 ∨ j = 32) with rfl | rfl | rfl | rfl | rfl
    · rfl
    · rfl
    · rfl
    · rfl
    · rfl
