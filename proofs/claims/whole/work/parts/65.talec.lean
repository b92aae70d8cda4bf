/-! tale: the class's table -/
def tbF (E : Nat) (lo : Nat → Bool) (fo : Nat → Nat → Nat → Bool) (k set last x t e : Nat) : Option Nat :=
  if pc t ≤ k + 1 then Vn E lo fo (pc t - 1) t e else
  if pc t = k + 2 ∧ t.testBit e = true then
    (if t - 2 ^ e < set then Vn E lo fo (k + 1) t e else
      if t - 2 ^ e = set then wmn (stp (fo (k + 1)) (fun l => Vn E lo fo k set l) e) (if e < x then last + 1 else last) else none)
  else none
def tabP (E : Nat) (lo : Nat → Bool) (fo : Nat → Nat → Nat → Bool) (k set last x : Nat) (S : SS) : Prop := ∀ t e, t < 2 ^ E → e < E → S.1 37 (t * 7 + e) = oI (tbF E lo fo k set last x t e)
theorem tb_s1 {E k set last x t e : Nat} {lo : Nat → Bool} {fo : Nat → Nat → Nat → Bool} (h : ¬ (e = x ∧ t.testBit e = true ∧ t - 2 ^ e = set)) : tbF E lo fo k set last (x + 1) t e = tbF E lo fo k set last x t e := by
  unfold tbF
  by_cases h1 : pc t ≤ k + 1
  · rw [if_pos h1, if_pos h1]
  rw [if_neg h1, if_neg h1]
  by_cases h2 : pc t = k + 2 ∧ t.testBit e = true
  · rw [if_pos h2, if_pos h2]
    by_cases h3 : t - 2 ^ e < set
    · rw [if_pos h3, if_pos h3]
    rw [if_neg h3, if_neg h3]
    by_cases h4 : t - 2 ^ e = set
    · rw [if_pos h4, if_pos h4]
      have h5 : e ≠ x := fun q => h ⟨q, h2.2, h4⟩
      by_cases h6 : e < x
      · rw [if_pos h6, if_pos (by omega)]
      · rw [if_neg h6, if_neg (by omega)]
    · rw [if_neg h4, if_neg h4]
  · rw [if_neg h2, if_neg h2]
theorem tb_at {E k set last x y : Nat} {lo : Nat → Bool} {fo : Nat → Nat → Nat → Bool} (hs : set < 128) (hx : x < 7) (hp : pc set = k + 1) (hb : set.testBit x = false) : tbF E lo fo k set last y (set ||| 2 ^ x) x = wmn (stp (fo (k + 1)) (fun l => Vn E lo fo k set l) x) (if x < y then last + 1 else last) := by
  obtain ⟨q1, q2, q3, q4⟩ := k_ad set hs x hx hb
  unfold tbF
  rw [if_neg (by omega), if_pos ⟨by omega, q3⟩, q1, if_neg (by omega), if_pos rfl]
theorem tb_e {E k set last t e : Nat} {lo : Nat → Bool} {fo : Nat → Nat → Nat → Bool} (he : e < E) : tbF E lo fo k set last E t e = tbF E lo fo k set (last + 1) 0 t e := by
  unfold tbF
  rw [if_pos he, if_neg (Nat.not_lt_zero e)]
theorem tb_no {E k set last t e : Nat} {lo : Nat → Bool} {fo : Nat → Nat → Nat → Bool} (h : Vn E lo fo k set last = none) : tbF E lo fo k set (last + 1) 0 t e = tbF E lo fo k set last 0 t e := by
  have hq : stp (fo (k + 1)) (fun l => Vn E lo fo k set l) e last = none := by
    unfold stp
    dsimp only
    rw [h]
    split <;> rfl
  have hw : wmn (stp (fo (k + 1)) (fun l => Vn E lo fo k set l) e) (last + 1) = wmn (stp (fo (k + 1)) (fun l => Vn E lo fo k set l) e) last := by
    show mn2 _ _ = _
    rw [hq, mn2_n]
  unfold tbF
  rw [if_neg (Nat.not_lt_zero e), if_neg (Nat.not_lt_zero e), hw]
theorem tb_n {E k set t e : Nat} {lo : Nat → Bool} {fo : Nat → Nat → Nat → Bool} : tbF E lo fo k set E 0 t e = tbF E lo fo k (set + 1) 0 0 t e := by
  unfold tbF
  rw [if_neg (Nat.not_lt_zero e), if_neg (Nat.not_lt_zero e)]
  by_cases h1 : pc t ≤ k + 1
  · rw [if_pos h1, if_pos h1]
  rw [if_neg h1, if_neg h1]
  by_cases h2 : pc t = k + 2 ∧ t.testBit e = true
  · rw [if_pos h2, if_pos h2]
    by_cases h3 : t - 2 ^ e < set
    · rw [if_pos h3, if_pos (by omega)]
    rw [if_neg h3]
    by_cases h4 : t - 2 ^ e = set
    · rw [if_pos h4, if_pos (by omega)]
      show _ = if t.testBit e = true then wmn (stp (fo (k + 1)) (fun l => Vn E lo fo k (t - 2 ^ e) l) e) E else none
      rw [if_pos h2.2, h4]
    · rw [if_neg h4, if_neg (by omega)]
      by_cases h5 : t - 2 ^ e = set + 1
      · rw [if_pos h5]
        rfl
      · rw [if_neg h5]
  · rw [if_neg h2, if_neg h2]
theorem tb_sk {E k set t e : Nat} {lo : Nat → Bool} {fo : Nat → Nat → Nat → Bool} (hE : E ≤ 7) (ht : t < 2 ^ E) (he : e < E) (hp : ¬ pc set = k + 1) : tbF E lo fo k set 0 0 t e = tbF E lo fo k (set + 1) 0 0 t e := by
  unfold tbF
  rw [if_neg (Nat.not_lt_zero e)]
  by_cases h1 : pc t ≤ k + 1
  · rw [if_pos h1, if_pos h1]
  rw [if_neg h1, if_neg h1]
  by_cases h2 : pc t = k + 2 ∧ t.testBit e = true
  · have q := k_rm t (k_pcE E (by omega) t ht).2.1 e (by omega) h2.2
    have h4 : ¬ t - 2 ^ e = set := fun z => by
      rw [z] at q
      omega
    rw [if_pos h2, if_pos h2]
    by_cases h3 : t - 2 ^ e < set
    · rw [if_pos h3, if_pos (by omega)]
    rw [if_neg h3, if_neg h4, if_neg (by omega)]
    by_cases h5 : t - 2 ^ e = set + 1
    · rw [if_pos h5]
      rfl
    · rw [if_neg h5]
  · rw [if_neg h2, if_neg h2]
theorem tb_st {E k t e : Nat} {lo : Nat → Bool} {fo : Nat → Nat → Nat → Bool} (hE : E ≤ 7) (ht : t < 2 ^ E) (he : e < E) : tbF E lo fo k (2 ^ E) 0 0 t e = tbF E lo fo (k + 1) 1 0 0 t e := by
  unfold tbF
  rw [if_neg (Nat.not_lt_zero e)]
  by_cases h1 : pc t ≤ k + 1
  · rw [if_pos h1, if_pos (by omega)]
  rw [if_neg h1]
  by_cases h3 : pc t = k + 2
  · rw [if_pos (show pc t ≤ k + 1 + 1 by omega), show pc t - 1 = k + 1 by omega]
    by_cases h4 : t.testBit e = true
    · rw [if_pos ⟨h3, h4⟩, if_pos (Nat.lt_of_le_of_lt (Nat.sub_le ..) ht)]
    · rw [if_neg (fun z => h4 z.2)]
      show none = if t.testBit e = true then _ else _
      rw [if_neg h4]
  · rw [if_neg (fun z => h3 z.1), if_neg (by omega)]
    by_cases h5 : pc t = k + 1 + 2 ∧ t.testBit e = true
    · have q := k_rm t (k_pcE E (by omega) t ht).2.1 e (by omega) h5.2
      have h6 : ¬ t - 2 ^ e < 1 := fun z => by
        rw [show t - 2 ^ e = 0 by omega] at q
        have : pc 0 = 0 := rfl
        omega
      rw [if_pos h5, if_neg h6]
      by_cases h7 : t - 2 ^ e = 1
      · rw [if_pos h7]
        rfl
      · rw [if_neg h7]
    · rw [if_neg h5]
theorem oI_m1 {x : Option Nat} (h : ∀ r, x = some r → r < 2 ^ 31) : oI x = -1 ↔ x = none := by
  cases x with
  | none => exact ⟨fun _ => rfl, fun _ => rfl⟩
  | some r =>
    constructor
    · intro q
      exact absurd q (nI_m1 (h r rfl))
    · intro q
      cases q
theorem wmn_bd {f : Nat → Option Nat} {B : Nat} (h : ∀ l r, f l = some r → r < B) (L r : Nat) (hw : wmn f L = some r) : r < B := by
  obtain ⟨l, _, q⟩ := wmn_some L r hw
  exact h l r q
theorem p7 {n : Nat} (h : n ≤ 7) : 10 ^ n ≤ 10000000 := Nat.le_trans (Nat.pow_le_pow_right (by omega) h) (by decide)
theorem Vn_bd {E n t e r : Nat} {lo : Nat → Bool} {fo : Nat → Nat → Nat → Bool} (hE : E ≤ 7) (ht : t < 2 ^ E) (he : e < E) (h : Vn E lo fo n t e = some r) : r < 10000000 := by
  have q := pth_pc hE _ _ _ _ (Vn_some hE n t e r ht he h)
  have := (k_pcE E (by omega) t q.1).1
  exact Nat.lt_of_lt_of_le q.2.2.2.1 (p7 (by omega))
theorem k_fol : ∀ v, v < 128 → ∀ s, s < 128 → nI v &&& (nI s ^^^ (-1)) = nI (v &&& (127 ^^^ s)) ∧ v &&& (127 ^^^ s) < 128 := by decide +kernel
theorem k_127 : ∀ e, e < 7 → (127 : Nat).testBit e = true := by decide
theorem mul7 (t e : Nat) : nI t * 7 + nI e = nI (t * 7 + e) := by
  show nI t * nI 7 + nI e = _
  rw [pk_mul, nI_add]
theorem c_lr_i {E N k set last r0 v : Nat} {lo : Nat → Bool} {fo : Nat → Nat → Nat → Bool} {S0 : SS} (hE : E ≤ 7) (h18 : gi S0 18 4 = nI E) (hset : set < 2 ^ E) (hp : pc set = k + 1) (hl : last < E) (hr : Vn E lo fo k set last = some r0) (hv : v < 128) (hvb : ∀ b, b < E → v.testBit b = fo (k + 1) last b) : ∀ (j x n : Nat) (S : SS), Fr [37] S0 S → tabP E lo fo k set last x S → x + j = E → j < n → ∃ S2, fX0_lengthenRow_l33 N n (nI set) (nI r0) (nI (v &&& (127 ^^^ set))) (nI x) S = some S2 ∧ Fr [37] S0 S2 ∧ tabP E lo fo k set last E S2 := by
  have hs := (k_pcE E (by omega) set hset).2.1
  have hkE := (k_pcE E (by omega) set hset).1
  have hr0 := Vn_bd hE hset hl hr
  intro j
  induction j with
  | zero =>
    intro x n S fS hT hx hn
    obtain ⟨n, rfl⟩ : ∃ q, n = q + 1 := ⟨n - 1, by omega⟩
    have : x = E := by omega
    subst this
    unfold fX0_lengthenRow_l33
    rw [fS.gi (by decide), h18, if_pos (nI_le (by omega) (by omega))]
    exact ⟨S, rfl, fS, hT⟩
  | succ j ih =>
    intro x n S fS hT hx hn
    obtain ⟨n, rfl⟩ : ∃ q, n = q + 1 := ⟨n - 1, by omega⟩
    have hxE : x < E := by omega
    have hbit := (k_sr _ (k_fol v hv set hs).2 x (by omega)).1
    rw [Nat.testBit_and, Nat.testBit_xor, k_127 x (by omega), hvb x hxE] at hbit
    unfold fX0_lengthenRow_l33
    rw [fS.gi (by decide), h18, if_neg (nI_ge (by omega) (by omega))]
    simp only [lt_s9, nI_1]
    have skip : (set.testBit x = true ∨ fo (k + 1) last x = false) → tabP E lo fo k set last (x + 1) S := fun hq t e ht he => by
      rw [hT t e ht he]
      by_cases h1 : e = x ∧ t.testBit e = true ∧ t - 2 ^ e = set
      · obtain ⟨rfl, h2, h3⟩ := h1
        have q := k_rm t (k_pcE E (by omega) t ht).2.1 e (by omega) h2
        have hb : set.testBit e = false := by rw [← h3]; exact q.2.2.2
        have e1 : t = set ||| 2 ^ e := by rw [← h3]; exact q.2.2.1.symm
        rw [e1, tb_at hs (by omega) hp hb, tb_at hs (by omega) hp hb, if_neg (by omega), if_pos (by omega)]
        have hz : stp (fo (k + 1)) (fun l => Vn E lo fo k set l) e last = none := by
          unfold stp
          rcases hq with hq | hq
          · rw [hb] at hq
            cases hq
          · rw [hq]
            rfl
        show _ = oI (mn2 _ _)
        rw [hz, mn2_n]
      · rw [tb_s1 h1]
    by_cases hb : set.testBit x = true
    · rw [if_neg (fun z => by
        have := hbit.mp z
        rw [hb] at this
        simp at this)]
      exact ih (x + 1) n S fS (skip (Or.inl hb)) (by omega) (by omega)
    have hb' := eq_false_of_ne_true hb
    by_cases hf : fo (k + 1) last x = true
    · rw [if_pos (hbit.mpr (by rw [hb', hf]; rfl)), (k_or set hs x (by omega)).1, mul7, k_10]
      obtain ⟨q1, q2, q3, q4⟩ := k_ad set hs x (by omega) hb'
      have hkr := (k_rmE E (by omega) set hset x hxE).1
      have hcur := hT (set ||| 2 ^ x) x hkr hxE
      rw [tb_at hs (by omega) hp hb', if_neg (by omega)] at hcur
      simp (disch := omega) only [ck_in]
      rw [ga_nI (by omega), hcur]
      have hstp : stp (fo (k + 1)) (fun l => Vn E lo fo k set l) x last = some (10 * r0 + x) := by
        unfold stp
        rw [if_pos hf]
        dsimp only
        rw [hr]
        rfl
      have hbd : ∀ r, wmn (stp (fo (k + 1)) (fun l => Vn E lo fo k set l) x) last = some r → r < 2 ^ 31 := fun r hr' => by
        obtain ⟨l, l1, l2⟩ := wmn_some _ _ hr'
        unfold stp at l2
        split at l2
        · dsimp only at l2
          cases h3 : Vn E lo fo k set l with
          | none =>
            rw [h3] at l2
            cases l2
          | some y =>
            have := Vn_bd hE hset (show l < E by omega) h3
            rw [h3] at l2
            cases l2
            show 10 * y + x < 2 ^ 31
            omega
        · cases l2
      have fin : ∀ (S' : SS) (w : Option Nat), (∀ t e, t < 2 ^ E → e < E → ¬ (t = set ||| 2 ^ x ∧ e = x) → S'.1 37 (t * 7 + e) = S.1 37 (t * 7 + e)) → S'.1 37 ((set ||| 2 ^ x) * 7 + x) = oI w → w = mn2 (wmn (stp (fo (k + 1)) (fun l => Vn E lo fo k set l) x) last) (some (10 * r0 + x)) → tabP E lo fo k set last (x + 1) S' := fun S' w h1 h2 h3 t e ht he => by
        by_cases h4 : t = set ||| 2 ^ x ∧ e = x
        · obtain ⟨rfl, rfl⟩ := h4
          rw [h2, h3, tb_at hs (by omega) hp hb', if_pos (by omega)]
          show _ = oI (mn2 _ _)
          rw [hstp]
        · rw [h1 t e ht he h4, hT t e ht he, tb_s1]
          rintro ⟨rfl, h5, h6⟩
          have q := k_rm t (k_pcE E (by omega) t ht).2.1 e (by omega) h5
          exact h4 ⟨by rw [← h6]; exact q.2.2.1.symm, rfl⟩
      have wr : ∀ t e, t < 2 ^ E → e < E → ¬ (t = set ||| 2 ^ x ∧ e = x) → (pa S 37 (nI ((set ||| 2 ^ x) * 7 + x)) (nI (10 * r0 + x))).1 37 (t * 7 + e) = S.1 37 (t * 7 + e) := fun t e ht he h4 => by
        rw [row_pa, if_pos rfl, nI_clamp (by omega), pk_un (by omega)]
      have ws : (pa S 37 (nI ((set ||| 2 ^ x) * 7 + x)) (nI (10 * r0 + x))).1 37 ((set ||| 2 ^ x) * 7 + x) = oI (some (10 * r0 + x)) := by
        rw [row_pa, if_pos rfl, nI_clamp (by omega), pk_us]
        rfl
      cases hw : wmn (stp (fo (k + 1)) (fun l => Vn E lo fo k set l) x) last with
      | none =>
        rw [if_pos (show oI none = -1 from rfl)]
        exact ih (x + 1) n _ (fS.tr (Fr.pa (by decide))) (fin _ (some (10 * r0 + x)) wr ws (by rw [hw]; rfl)) (by omega) (by omega)
      | some y =>
        have hy := hbd y hw
        show ∃ S2, (if nI y = -1 then _ else _) = some S2 ∧ _
        rw [if_neg (nI_m1 hy)]
        show ∃ S2, (if nI y ≤ nI (10 * r0 + x) then _ else _) = some S2 ∧ _
        by_cases hc : y ≤ 10 * r0 + x
        · rw [if_pos (nI_le hc (by omega))]
          refine ih (x + 1) n S fS (fin S (some y) (fun _ _ _ _ _ => rfl) ?_ ?_) (by omega) (by omega)
          · rw [hcur, hw]
          · rw [hw]
            simp only [mn2]
            rw [if_neg (by omega)]
        · rw [if_neg (nI_ge (by omega) (by omega))]
          refine ih (x + 1) n _ (fS.tr (Fr.pa (by decide))) (fin _ (some (10 * r0 + x)) wr ws ?_) (by omega) (by omega)
          rw [hw]
          simp only [mn2]
          rw [if_pos (by omega)]
    · rw [if_neg (fun z => by
        have := hbit.mp z
        simp [hf] at this)]
      exact ih (x + 1) n S fS (skip (Or.inr (eq_false_of_ne_true hf))) (by omega) (by omega)
theorem c_lr {E N k set last : Nat} {lo : Nat → Bool} {fo : Nat → Nat → Nat → Bool} {S : SS} (hN : 9 ≤ N) (hE : E ≤ 7) (h18 : gi S 18 4 = nI E) (hset : set < 2 ^ E) (hp : pc set = k + 1) (hl : last < E) (hvb : ∃ v, v < 128 ∧ S.1 35 last = nI v ∧ ∀ b, b < E → v.testBit b = fo (k + 1) last b) (hT : tabP E lo fo k set last 0 S) : ∃ S2, fX0_lengthenRow N S (nI set) (nI last) = some S2 ∧ Fr [37] S S2 ∧ tabP E lo fo k set (last + 1) 0 S2 := by
  obtain ⟨v, v1, v2, v3⟩ := hvb
  have hs := (k_pcE E (by omega) set hset).2.1
  have hc := hT set last hset hl
  unfold tbF at hc
  rw [if_pos (by omega), show pc set - 1 = k by omega] at hc
  unfold fX0_lengthenRow
  rw [mul7, ck_in (by omega) (by omega), lt_s9, ga_nI (by omega), hc]
  cases hr : Vn E lo fo k set last with
  | none =>
    rw [if_pos (show oI none = -1 from rfl)]
    exact ⟨S, rfl, Fr.rf, fun t e ht he => by rw [tb_no hr]; exact hT t e ht he⟩
  | some r0 =>
    have hr0 := Vn_bd hE hset hl hr
    show ∃ S2, (if nI r0 = -1 then _ else _) = some S2 ∧ _
    rw [if_neg (nI_m1 (by omega)), ck_in (by omega) (by omega), lt_s9, ga_nI (by omega), v2, (k_fol v v1 set hs).1]
    obtain ⟨S2, z1, z2, z3⟩ := c_lr_i (N := N) hE h18 hset hp hl hr v1 v3 E 0 N S Fr.rf hT (by omega) (by omega)
    exact ⟨S2, z1, z2, fun t e ht he => by rw [← tb_e he]; exact z3 t e ht he⟩
theorem k_slE : ∀ E, E < 8 → sl 1 (nI E) = nI (2 ^ E) ∧ 2 ^ E ≤ 128 ∧ 1 ≤ 2 ^ E := by decide +kernel
def flP (E k : Nat) (fo : Nat → Nat → Nat → Bool) (S : SS) : Prop := ∀ a, a < E → ∃ v, v < 128 ∧ S.1 35 a = nI v ∧ ∀ b, b < E → v.testBit b = fo (k + 1) a b
theorem c_ls_i {E N k set : Nat} {lo : Nat → Bool} {fo : Nat → Nat → Nat → Bool} {S0 : SS} (hN : 9 ≤ N) (hE : E ≤ 7) (h18 : gi S0 18 4 = nI E) (hfl : flP E k fo S0) (hset : set < 2 ^ E) (hp : pc set = k + 1) (kc : Int32 → Int32 → SS → Option SS) (hkc : ∀ S, Fr [37] S0 S → tabP E lo fo k (set + 1) 0 0 S → ∃ S2, kc (nI (k + 1)) (nI (set + 1)) S = some S2 ∧ Fr [37] S0 S2 ∧ tabP E lo fo k (2 ^ E) 0 0 S2) : ∀ (j l n : Nat) (S : SS), Fr [37] S0 S → tabP E lo fo k set l 0 S → l + j = E → j < n → ∃ S2, fX0_lengthenRows_l25 N kc n (nI (k + 1)) (nI set) (nI l) S = some S2 ∧ Fr [37] S0 S2 ∧ tabP E lo fo k (2 ^ E) 0 0 S2 := by
  intro j
  induction j with
  | zero =>
    intro l n S fS hT hx hn
    obtain ⟨n, rfl⟩ : ∃ q, n = q + 1 := ⟨n - 1, by omega⟩
    have : l = E := by omega
    subst this
    unfold fX0_lengthenRows_l25
    rw [fS.gi (by decide), h18, if_pos (nI_le (by omega) (by omega)), lt_s9, nI_1]
    exact hkc S fS (fun t e ht he => by rw [← tb_n]; exact hT t e ht he)
  | succ j ih =>
    intro l n S fS hT hx hn
    obtain ⟨n, rfl⟩ : ∃ q, n = q + 1 := ⟨n - 1, by omega⟩
    unfold fX0_lengthenRows_l25
    rw [fS.gi (by decide), h18, if_neg (nI_ge (by omega) (by omega))]
    obtain ⟨v, v1, v2, v3⟩ := hfl l (by omega)
    obtain ⟨S1, z1, z2, z3⟩ := c_lr (N := N) hN hE ((fS.gi (by decide)).trans h18) hset hp (show l < E by omega) ⟨v, v1, by rw [fS.row (by decide)]; exact v2, v3⟩ hT
    rw [bd_s z1, lt_s9, nI_1]
    exact ih (l + 1) n S1 (fS.tr z2) z3 (by omega) (by omega)
theorem c_ls_o {E N k : Nat} {lo : Nat → Bool} {fo : Nat → Nat → Nat → Bool} {S0 : SS} (hN : 9 ≤ N) (hE : E ≤ 7) (hk : k < E) (h18 : gi S0 18 4 = nI E) (hfl : flP E k fo S0) : ∀ (j set n : Nat) (S : SS), Fr [37] S0 S → tabP E lo fo k set 0 0 S → set + j = 2 ^ E → j < n → ∃ S2, fX0_lengthenRows_l2 N n (nI (k + 1)) (nI set) S = some S2 ∧ Fr [37] S0 S2 ∧ tabP E lo fo k (2 ^ E) 0 0 S2 := by
  obtain ⟨e1, e2, _⟩ := k_slE E (by omega)
  intro j
  induction j with
  | zero =>
    intro set n S fS hT hx hn
    obtain ⟨n, rfl⟩ : ∃ q, n = q + 1 := ⟨n - 1, by omega⟩
    have : set = 2 ^ E := by omega
    unfold fX0_lengthenRows_l2
    rw [fS.gi (by decide), h18, e1, if_pos (nI_le (by omega) (by omega))]
    rw [this] at hT
    exact ⟨S, rfl, fS, hT⟩
  | succ j ih =>
    intro set n S fS hT hx hn
    obtain ⟨n, rfl⟩ : ∃ q, n = q + 1 := ⟨n - 1, by omega⟩
    have hset : set < 2 ^ E := by omega
    have hpE := (k_pcE E (by omega) set hset).1
    unfold fX0_lengthenRows_l2
    rw [fS.gi (by decide), h18, e1, if_neg (nI_ge (by omega) (by omega)), bd_s (bitc (by omega)), lt_s9, nI_1]
    by_cases hp : pc set = k + 1
    · rw [if_pos (by rw [hp])]
      exact c_ls_i (S0 := S0) hN hE h18 hfl hset hp (fX0_lengthenRows_l2 N n) (fun S' f' h' => ih (set + 1) n S' f' h' (by omega) (by omega)) E 0 N S fS hT (by omega) (by omega)
    · rw [if_neg (fun z => hp ((nI_eq (by omega) (by omega)).mp z))]
      exact ih (set + 1) n S fS (fun t e ht he => by rw [← tb_sk hE ht he hp]; exact hT t e ht he) (by omega) (by omega)
theorem c_ls {E N k : Nat} {lo : Nat → Bool} {fo : Nat → Nat → Nat → Bool} {S : SS} (hN : 200 ≤ N) (hE : E ≤ 7) (hk : k < E) (h18 : gi S 18 4 = nI E) (hfl : flP E k fo S) (hT : tabP E lo fo k 1 0 0 S) : ∃ S2, fX0_lengthenRows N S (nI (k + 1)) = some S2 ∧ Fr [37] S S2 ∧ tabP E lo fo (k + 1) 1 0 0 S2 := by
  obtain ⟨e1, e2, e3⟩ := k_slE E (by omega)
  obtain ⟨S2, z1, z2, z3⟩ := c_ls_o (N := N) (by omega) hE hk h18 hfl (2 ^ E - 1) 1 N S Fr.rf hT (by omega) (by omega)
  exact ⟨S2, z1, z2, fun t e ht he => by rw [← tb_st hE ht he]; exact z3 t e ht he⟩
/-! of each set the least row; the best set -/
theorem c_least {E N t : Nat} {lo : Nat → Bool} {fo : Nat → Nat → Nat → Bool} {S : SS} (hE : E ≤ 7) (h18 : gi S 18 4 = nI E) (ht : t < 2 ^ E) (hT : ∀ t e, t < 2 ^ E → e < E → S.1 37 (t * 7 + e) = oI (Vn E lo fo (pc t - 1) t e)) : ∀ (j i n : Nat), i + j = E → j < n → fX0_leastRowOf_l4 N n (nI t) (oI (wmn (fun e => Vn E lo fo (pc t - 1) t e) i)) (nI i) S = some (oI (lrF E lo fo t)) := by
  have ht2 := (k_pcE E (by omega) t ht).2.1
  have hbd : ∀ i, i ≤ E → ∀ r, wmn (fun e => Vn E lo fo (pc t - 1) t e) i = some r → r < 10000000 := fun i hi r hr => by
    obtain ⟨l, l1, l2⟩ := wmn_some _ _ hr
    exact Vn_bd hE ht (show l < E by omega) l2
  intro j
  induction j with
  | zero =>
    intro i n hi hn
    obtain ⟨n, rfl⟩ : ∃ q, n = q + 1 := ⟨n - 1, by omega⟩
    unfold fX0_leastRowOf_l4 lrF
    rw [h18, if_pos (nI_le (by omega) (by omega)), show i = E by omega]
  | succ j ih =>
    intro i n hi hn
    obtain ⟨n, rfl⟩ : ∃ q, n = q + 1 := ⟨n - 1, by omega⟩
    have h1 := ih (i + 1) n (by omega) (by omega)
    have e1 : wmn (fun e => Vn E lo fo (pc t - 1) t e) (i + 1) = mn2 (wmn (fun e => Vn E lo fo (pc t - 1) t e) i) (Vn E lo fo (pc t - 1) t i) := rfl
    rw [e1] at h1
    unfold fX0_leastRowOf_l4
    rw [h18, if_neg (nI_ge (by omega) (by omega)), mul7, ck_in (by omega) (by omega), lt_s9, ga_nI (by omega), hT t i ht (by omega)]
    simp only [lt_s9, nI_1]
    cases hq : Vn E lo fo (pc t - 1) t i with
    | none =>
      rw [hq, mn2_n] at h1
      rw [if_pos (show oI none = -1 from rfl)]
      exact h1
    | some y =>
      have hy := Vn_bd hE ht (show i < E by omega) hq
      rw [hq] at h1
      show (if nI y = -1 then _ else _) = _
      rw [if_neg (nI_m1 (by omega))]
      cases hw : wmn (fun e => Vn E lo fo (pc t - 1) t e) i with
      | none =>
        rw [hw] at h1
        rw [if_pos (show oI none = -1 from rfl)]
        exact h1
      | some z =>
        have hz := hbd i (by omega) z hw
        rw [hw] at h1
        simp only [mn2] at h1
        show (if nI z = -1 then _ else if nI z ≤ nI y then _ else _) = _
        rw [if_neg (nI_m1 (by omega))]
        by_cases hc : z ≤ y
        · rw [if_pos (nI_le hc (by omega))]
          rw [if_neg (by omega)] at h1
          exact h1
        · rw [if_neg (nI_ge (by omega) (by omega))]
          rw [if_pos (by omega)] at h1
          exact h1
def eT (S : SS) (mo : Nat) : Option (Nat × Nat) → Prop
  | none => mo = 0 ∧ gi S 29 10 = 0 ∧ gi S 29 11 = -1
  | some c => ∃ len r, c = t3 len (pc mo) r ∧ mo < 128 ∧ r < 10000000 ∧ len ≤ 140 ∧ gi S 29 10 = nI len ∧ gi S 29 11 = nI r
theorem k_few : ∀ a, a < 8 → ∀ b, b < 8 → (0 < nI a - nI b ↔ b < a) ∧ (nI a - nI b = 0 ↔ a = b) := by decide +kernel
theorem k_pc7 : ∀ t, t < 128 → pc t < 8 := by decide +kernel
theorem sumF_lb : ∀ (n B : Nat) (f : Nat → Nat), (∀ i, i < n → f i ≤ B) → sumF f n ≤ B * n
  | 0, _, _, _ => Nat.zero_le _
  | n + 1, B, f, h => by
    unfold sumF
    have h1 := sumF_lb n B f (fun i hi => h i (by omega))
    have h2 := h n (by omega)
    rw [Nat.mul_succ]
    omega
theorem lnS_bd {E v : Nat} {m : Nat → Int32} (hE : E ≤ 7) (hw : wfL E m) : lnS E (lnF m) v ≤ 140 ∧ ∀ e, e < E → v.testBit e = true → 1 ≤ lnS E (lnF m) v := by
  constructor
  · have h := sumF_lb E 20 (fun e => if v.testBit e = true then lnF m e else 0) (fun i hi => by
      have := (lnF_eq hw hi).2
      split <;> omega)
    unfold lnS
    omega
  · intro e he hb
    have h := sumF_ge E (fun e => if v.testBit e = true then lnF m e else 0) e he
    rw [if_pos hb] at h
    have := (lnF_eq hw he).2
    unfold lnS
    omega
theorem c_bst {E N : Nat} {m : Nat → Int32} {lo : Nat → Bool} {fo : Nat → Nat → Nat → Bool} {S0 : SS} (hN : 9 ≤ N) (hE : E ≤ 7) (hv : Lv E 18 S0 m) (hw : wfL E m) (hT : ∀ t e, t < 2 ^ E → e < E → S0.1 37 (t * 7 + e) = oI (Vn E lo fo (pc t - 1) t e)) : ∀ (j t n mo : Nat) (S : SS) (s : Option (Nat × Nat)), Fr [29] S0 S → eT S mo s → t + j = 2 ^ E → j < n → ∃ S2 mo2, fX0_findTale_l102 N n (nI mo) (nI t) S = some S2 ∧ Fr [29] S0 S2 ∧ eT S2 mo2 ((csl E lo fo (lnF m) j t).foldl bet s) := by
  obtain ⟨e1, e2, _⟩ := k_slE E (by omega)
  intro j
  induction j with
  | zero =>
    intro t n mo S s fS he hx hn
    obtain ⟨n, rfl⟩ : ∃ q, n = q + 1 := ⟨n - 1, by omega⟩
    unfold fX0_findTale_l102
    rw [(hv.f fS (by decide)).1, e1, if_pos (nI_le (by omega) (by omega))]
    exact ⟨S, mo, rfl, fS, he⟩
  | succ j ih =>
    intro t n mo S s fS he hx hn
    obtain ⟨n, rfl⟩ : ∃ q, n = q + 1 := ⟨n - 1, by omega⟩
    have ht : t < 2 ^ E := by omega
    have ht2 := (k_pcE E (by omega) t ht).2.1
    have hvS := hv.f fS (by decide)
    have hl : fX0_leastRowOf N S (nI t) = some (oI (lrF E lo fo t)) := c_least hE hvS.1 ht (fun t e h1 h2 => by rw [fS.row (by decide)]; exact hT t e h1 h2) E 0 N (by omega) (by omega)
    unfold fX0_findTale_l102 csl
    rw [hvS.1, e1, if_neg (nI_ge (by omega) (by omega)), bd_s hl]
    simp only [lt_s9, nI_1]
    cases hq : lrF E lo fo t with
    | none =>
      rw [if_pos (show oI none = -1 from rfl)]
      exact ih (t + 1) n mo S s fS he (by omega) (by omega)
    | some r =>
      obtain ⟨l, l1, l2⟩ := wmn_some _ _ hq
      have hr := Vn_bd hE ht l1 l2
      have hb := pth_pc hE _ _ _ _ (Vn_some hE _ t l r ht l1 l2)
      have hlen := lnS_bd (v := t) hE hw
      have hlen1 := hlen.2 l l1 hb.2.2.2.2
      have hlen2 := hlen.1
      have hlS : fX8_lengthOf N S 18 (nI t) = some (nI (lnS E (lnF m) t)) := c_len hN hE hvS hw ht2
      have hpt := k_pc7 t ht2
      rw [show oI (some r) = nI r from rfl, if_neg (nI_m1 (by omega)), List.foldl_cons]
      unfold fX0_isBetter
      rw [bd_s hlS, bd_s hlS]
      have fr : Fr [29] S0 (pj (pj S 29 10 (nI (lnS E (lnF m) t))) 29 11 (nI r)) := (fS.tr (Fr.pj (by decide))).tr (Fr.pj (by decide))
      have new : ∀ s', bet s' (t3 (lnS E (lnF m) t) (pc t) r) = some (t3 (lnS E (lnF m) t) (pc t) r) → ∃ S2 mo2, fX0_findTale_l102 N n (nI t) (nI (t + 1)) (pj (pj S 29 10 (nI (lnS E (lnF m) t))) 29 11 (nI r)) = some S2 ∧ Fr [29] S0 S2 ∧ eT S2 mo2 ((csl E lo fo (lnF m) j (t + 1)).foldl bet (bet s' (t3 (lnS E (lnF m) t) (pc t) r))) := fun s' h' => by
        rw [h']
        exact ih (t + 1) n t _ _ fr ⟨_, r, rfl, ht2, hr, hlen2, by rw [gi_pj, gi_pj]; rfl, by rw [gi_pj]; rfl⟩ (by omega) (by omega)
      generalize lnS E (lnF m) t = len at *
      cases s with
      | none =>
        obtain ⟨h1, h2, h3⟩ := he
        rw [h2, if_neg (nI_ne0 (by omega) (by omega)), if_neg (nI_nle (by omega) (by omega)), bd_s rfl, if_neg n10]
        exact new none rfl
      | some c =>
        obtain ⟨len0, r0, rfl, h2, h3, h4, h5, h6⟩ := id he
        have hpm := k_pc7 mo h2
        rw [h5, h6]
        have old : bet (some (t3 len0 (pc mo) r0)) (t3 len (pc t) r) = some (t3 len0 (pc mo) r0) → ∃ S2 mo2, fX0_findTale_l102 N n (nI mo) (nI (t + 1)) S = some S2 ∧ Fr [29] S0 S2 ∧ eT S2 mo2 ((csl E lo fo (lnF m) j (t + 1)).foldl bet (bet (some (t3 len0 (pc mo) r0)) (t3 len (pc t) r))) := fun h' => by
          rw [h']
          exact ih (t + 1) n mo S _ fS he (by omega) (by omega)
        by_cases c1 : len = len0
        · rw [if_pos (by rw [c1]), bd_s (bitc h2), bd_s (bitc ht2), lt_s9]
          have kf := k_few (pc mo) hpm (pc t) hpt
          by_cases c2 : pc t < pc mo
          · rw [if_pos (kf.1.mpr c2), bd_s rfl, if_neg n10]
            refine new _ (if_pos ?_)
            show len0 < len ∨ len = len0 ∧ pc t * 100000000 + r < pc mo * 100000000 + r0
            omega
          · rw [if_neg (fun z => c2 (kf.1.mp z))]
            by_cases c3 : pc mo = pc t
            · rw [if_pos (kf.2.mpr c3)]
              by_cases c4 : r0 ≤ r
              · rw [if_pos (nI_le c4 (by omega)), bd_s rfl, if_pos rfl]
                refine old (if_neg ?_)
                show ¬ (len0 < len ∨ len = len0 ∧ pc t * 100000000 + r < pc mo * 100000000 + r0)
                omega
              · rw [if_neg (nI_ge (by omega) (by omega)), bd_s rfl, if_neg n10]
                refine new _ (if_pos ?_)
                show len0 < len ∨ len = len0 ∧ pc t * 100000000 + r < pc mo * 100000000 + r0
                omega
            · rw [if_neg (fun z => c3 (kf.2.mp z)), bd_s rfl, if_pos rfl]
              refine old (if_neg ?_)
              show ¬ (len0 < len ∨ len = len0 ∧ pc t * 100000000 + r < pc mo * 100000000 + r0)
              omega
        · rw [if_neg (fun z => c1 ((nI_eq (by omega) (by omega)).mp z))]
          by_cases c2 : len ≤ len0
          · rw [if_pos (nI_le c2 (by omega)), bd_s rfl, if_pos rfl]
            refine old (if_neg ?_)
            show ¬ (len0 < len ∨ len = len0 ∧ pc t * 100000000 + r < pc mo * 100000000 + r0)
            omega
          · rw [if_neg (nI_ge (by omega) (by omega)), bd_s rfl, if_neg n10]
            refine new _ (if_pos ?_)
            show len0 < len ∨ len = len0 ∧ pc t * 100000000 + r < pc mo * 100000000 + r0
            omega
