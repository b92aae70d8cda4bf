/-! tale: all of the class, the reference, the call -/
def foN (G : Int32 → Int32 → Int32 → Int32 → Int32 → Bool) (m pl : Nat → Int32) (n a b : Nat) : Bool := foF G m pl (nI n) a b
theorem tb_fin {E t e set : Nat} {lo : Nat → Bool} {fo : Nat → Nat → Nat → Bool} (hE : E ≤ 7) (h0 : 0 < E) (ht : t < 2 ^ E) : tbF E lo fo (E - 1) set 0 0 t e = Vn E lo fo (pc t - 1) t e := by
  have := (k_pcE E (by omega) t ht).1
  unfold tbF
  rw [if_pos (by omega)]
theorem c_stages {E N F H : Nat} {G : Int32 → Int32 → Int32 → Int32 → Int32 → Bool} {pl m : Nat → Int32} {S0 : SS} (hN : 200 ≤ N) (h0 : 0 < E) (hK : Kx E N F H G pl S0) (hv : Lv E 18 S0 m) (hw : wfL E m) (hpl : ∀ d, d < E → ∃ v, v ≤ 6 ∧ pl d = nI v) : ∀ (j k n : Nat) (S : SS), Fr [16, 17, 35, 37] S0 S → tabP E (loF m) (foN G m pl) k 1 0 0 S → k + 1 + j = E → j < n → ∃ S2 mo2, fX0_findTale_l60 N n (nI (bF (loF m) E)) (nI (k + 1)) S = some S2 ∧ Fr [16, 17, 29, 35, 37] S0 S2 ∧ eT S2 mo2 ((csl E (loF m) (foN G m pl) (lnF m) (2 ^ E - 1) 1).foldl bet none) := by
  have hE := hK.1
  have k1 : ∀ x, x ∈ ([16, 17, 35, 37] : List Nat) → x < 18 ∨ 18 + 4 < x := by decide
  obtain ⟨_, e2, e3⟩ := k_slE E (by omega)
  intro j
  induction j with
  | zero =>
    intro k n S fS hT hj hn
    obtain ⟨n, rfl⟩ : ∃ q, n = q + 1 := ⟨n - 1, by omega⟩
    have hvS := hv.f fS k1
    unfold fX0_findTale_l60
    rw [hvS.1, if_pos (nI_le (by omega) (by omega)), lt_s9, lt_s9]
    have f1 : Fr [29] S (pj (pj S 29 10 0) 29 11 (-1)) := (Fr.pj (by decide)).tr (Fr.pj (by decide))
    obtain ⟨S2, mo2, z1, z2, z3⟩ := c_bst (N := N) (lo := loF m) (fo := foN G m pl) (by omega) hE (hvS.f f1 (by decide)) hw (fun t e ht he => by
      rw [f1.row (by decide), hT t e ht he, show k = E - 1 by omega, tb_fin hE h0 ht]) (2 ^ E - 1) 1 N 0 (pj (pj S 29 10 0) 29 11 (-1)) none Fr.rf ⟨rfl, by rw [gi_pj, gi_pj]; rfl, by rw [gi_pj]; rfl⟩ (by omega) (by omega)
    exact ⟨S2, mo2, z1, ((fS.mono (by decide)).tr (f1.mono (by decide))).tr (z2.mono (by decide)), z3⟩
  | succ j ih =>
    intro k n S fS hT hj hn
    obtain ⟨n, rfl⟩ : ∃ q, n = q + 1 := ⟨n - 1, by omega⟩
    have hvS := hv.f fS k1
    unfold fX0_findTale_l60
    rw [hvS.1, if_neg (nI_ge (by omega) (by omega))]
    obtain ⟨S1, z1, z2, z3⟩ := c_fo (nn := nI (k + 1)) (N := N) (by omega) (hK.f fS (by decide)) hvS hw hpl
    have hv1 := hvS.f z2 (by decide)
    obtain ⟨S2, y1, y2, y3⟩ := c_ls (N := N) (lo := loF m) (fo := foN G m pl) (k := k) hN hE (by omega) hv1.1 (fun a ha => by
      obtain ⟨v, v1, v2, v3⟩ := z3 a (by omega)
      refine ⟨v, v1, v2, fun b hb => ?_⟩
      rw [v3 b (by omega)]
      simp only [ha, hb, decide_true, Bool.true_and]
      rfl) (fun t e ht he => by rw [z2.row (by decide)]; exact hT t e ht he)
    rw [bd_s z1, bd_s y1, lt_s9, nI_1]
    exact ih (k + 1) n S2 ((fS.tr (z2.mono (by decide))).tr (y2.mono (by decide))) y3 (by omega) (by omega)
theorem c_first1 {E N : Nat} {lo : Nat → Bool} {S0 : SS} (hE : E ≤ 7) (h18 : gi S0 18 4 = nI E) : ∀ (j x n : Nat) (S : SS), Fr [37] S0 S → (∀ t e, t < 2 ^ E → e < E → S.1 37 (t * 7 + e) = oI (if t = 2 ^ e ∧ lo e = true ∧ e < x then some e else none)) → x + j = E → j < n → ∃ S2, fX0_findTale_l18 N n (nI (bF lo E)) (nI x) S = fX0_findTale_l60 N N (nI (bF lo E)) 1 S2 ∧ Fr [37] S0 S2 ∧ ∀ t e, t < 2 ^ E → e < E → S2.1 37 (t * 7 + e) = oI (if t = 2 ^ e ∧ lo e = true then some e else none) := by
  intro j
  induction j with
  | zero =>
    intro x n S fS hT hj hn
    obtain ⟨n, rfl⟩ : ∃ q, n = q + 1 := ⟨n - 1, by omega⟩
    unfold fX0_findTale_l18
    rw [fS.gi (by decide), h18, if_pos (nI_le (by omega) (by omega))]
    refine ⟨S, rfl, fS, fun t e ht he => ?_⟩
    rw [hT t e ht he]
    by_cases q : t = 2 ^ e ∧ lo e = true
    · rw [if_pos q, if_pos ⟨q.1, q.2, by omega⟩]
    · rw [if_neg q, if_neg (fun z => q ⟨z.1, z.2.1⟩)]
  | succ j ih =>
    intro x n S fS hT hj hn
    obtain ⟨n, rfl⟩ : ∃ q, n = q + 1 := ⟨n - 1, by omega⟩
    have hx : x < E := by omega
    have hbit := (k_sr _ (bF_128 lo hE) x (by omega)).1
    rw [bF_tb] at hbit
    simp only [hx, decide_true, Bool.true_and] at hbit
    have hp := k_pow x (by omega)
    unfold fX0_findTale_l18
    rw [fS.gi (by decide), h18, if_neg (nI_ge (by omega) (by omega))]
    simp only [lt_s9, nI_1]
    by_cases hl : lo x = true
    · rw [if_pos (hbit.mpr hl), (k_slE x (by omega)).1, mul7, ck_in (by omega) (by omega)]
      refine ih (x + 1) n _ (fS.tr (Fr.pa (by decide))) (fun t e ht he => ?_) (by omega) (by omega)
      have ht2 := (k_pcE E (by omega) t ht).2.1
      rw [row_pa, if_pos rfl, nI_clamp (by omega)]
      by_cases q : t = 2 ^ x ∧ e = x
      · obtain ⟨rfl, rfl⟩ := q
        rw [pk_us, if_pos ⟨rfl, hl, by omega⟩]
        rfl
      · rw [pk_un (by omega), hT t e ht he]
        by_cases q2 : t = 2 ^ e ∧ lo e = true ∧ e < x
        · rw [if_pos q2, if_pos ⟨q2.1, q2.2.1, by omega⟩]
        · rw [if_neg q2, if_neg (fun z => by
            by_cases q3 : e = x
            · exact q ⟨by rw [← q3]; exact z.1, q3⟩
            · exact q2 ⟨z.1, z.2.1, by omega⟩)]
    · rw [if_neg (fun z => hl (hbit.mp z))]
      refine ih (x + 1) n S fS (fun t e ht he => ?_) (by omega) (by omega)
      rw [hT t e ht he]
      by_cases q2 : t = 2 ^ e ∧ lo e = true ∧ e < x
      · rw [if_pos q2, if_pos ⟨q2.1, q2.2.1, by omega⟩]
      · rw [if_neg q2, if_neg (fun z => by
          by_cases q3 : e = x
          · rw [q3] at z
            exact hl z.2.1
          · exact q2 ⟨z.1, z.2.1, by omega⟩)]
theorem c_tle {E N F H : Nat} {G : Int32 → Int32 → Int32 → Int32 → Int32 → Bool} {pl m : Nat → Int32} {S : SS} (hN : 1000 ≤ N) (h0 : 0 < E) (hK : Kx E N F H G pl S) (hv : Lv E 18 S m) (hw : wfL E m) (hpl : ∀ d, d < E → ∃ v, v ≤ 6 ∧ pl d = nI v) : ∃ S2 mo2, fX0_findTale N S = some S2 ∧ Fr [16, 17, 29, 35, 37] S S2 ∧ eT S2 mo2 ((csl E (loF m) (foN G m pl) (lnF m) (2 ^ E - 1) 1).foldl bet none) := by
  have hE := hK.1
  obtain ⟨_, e2, e3⟩ := k_slE E (by omega)
  unfold fX0_findTale
  rw [bd_s (c_lb (by omega) hE hv hw)]
  obtain ⟨S1, z1, z2, z3⟩ := fills (N := N) (q := 37) (L := 896) (v := -1) (S := S) rfl (by omega) (by omega)
  rw [bd_s z1]
  have hv1 := hv.f z2 (by decide)
  obtain ⟨S2, y1, y2, y3⟩ := c_first1 (N := N) (lo := loF m) hE hv1.1 E 0 N S1 Fr.rf (fun t e ht he => by
    have ht2 := (k_pcE E (by omega) t ht).2.1
    rw [z3, if_pos (by omega), if_neg (by omega)]
    rfl) (by omega) (by omega)
  have y1' : fX0_findTale_l18 N N (nI (bF (loF m) E)) 0 S1 = _ := y1
  rw [y1']
  have f2 : Fr [16, 17, 29, 35, 37] S S2 := (z2.mono (by decide)).tr (y2.mono (by decide))
  obtain ⟨S3, mo3, x1, x2, x3⟩ := c_stages (N := N) (by omega) h0 ((hK.f z2 (by decide)).f y2 (by decide)) (hv1.f y2 (by decide)) hw hpl (E - 1) 0 N S2 Fr.rf (fun t e ht he => by
    have ht2 := (k_pcE E (by omega) t ht).2.1
    rw [y3 t e ht he]
    congr 1
    unfold tbF
    by_cases q : pc t ≤ 0 + 1
    · rw [if_pos q, show pc t - 1 = 0 by omega]
      rfl
    · have hpw := k_pow e (by omega)
      rw [if_neg q, if_neg (fun z => by rw [z.1, hpw.2.1] at q; omega)]
      by_cases q2 : pc t = 0 + 2 ∧ t.testBit e = true
      · have q5 := k_rm t ht2 e (by omega) q2.2
        rw [if_pos q2, if_neg (fun z => by
          rw [show t - 2 ^ e = 0 by omega] at q5
          have : pc 0 = 0 := rfl
          omega)]
        by_cases q6 : t - 2 ^ e = 1
        · rw [if_pos q6, if_neg (Nat.not_lt_zero e)]
          rfl
        · rw [if_neg q6]
      · rw [if_neg q2]) (by omega) (by omega)
  exact ⟨S3, mo3, x1, f2.tr x2, x3⟩
/-! the reference -/
def eU (T : SS) : Option (Nat × Nat) → Prop
  | none => gi T 52 31 = -1 ∧ gi T 52 32 = 0
  | some c => ∃ len n r, c = t3 len n r ∧ n ≤ 7 ∧ r < 10000000 ∧ len ≤ 140 ∧ gi T 52 31 = nI r ∧ gi T 52 32 = nI len ∧ gi T 52 33 = nI n
theorem eU_c {T T' : SS} (h : T'.1 52 = T.1 52) : ∀ {s : Option (Nat × Nat)}, eU T s → eU T' s
  | none, q => by
    unfold eU gi at *
    rw [h]
    exact q
  | some c, q => by
    unfold eU gi at *
    rw [h]
    exact q
theorem m_tt_h {N l g r n len : Nat} {T : SS} {s : Option (Nat × Nat)} {rec : SS → Int32 → Int32 → Int32 → Int32 → Int32 → Option SS} (he : eU T s) (hn : n ≤ 7) (hr : r < 10000000) (hlen : len ≤ 140) : ∃ T2, fX12_tryTales_b N rec T (nI l) (nI g) (nI r) (nI n) (nI len) = fX12_tryTales_l84 N rec N (nI l) (nI g) (nI r) (nI n) (nI len) 0 T2 ∧ FT [] T T2 ∧ eU T2 (bet s (t3 len n r)) := by
  have new : FT [] T (pj (pj (pj T 52 31 (nI r)) 52 32 (nI len)) 52 33 (nI n)) ∧ eU (pj (pj (pj T 52 31 (nI r)) 52 32 (nI len)) 52 33 (nI n)) (some (t3 len n r)) := by
    refine ⟨((FT.pj (Or.inl rfl)).tr (FT.pj (Or.inr (Or.inl rfl)))).tr (FT.pj (Or.inr (Or.inr (Or.inl rfl)))), len, n, r, rfl, hn, hr, hlen, ?_, ?_, ?_⟩
    · rw [gi_pj, gi_pj, gi_pj]
      rfl
    · rw [gi_pj, gi_pj]
      rfl
    · rw [gi_pj]
      rfl
  unfold fX12_tryTales_b fX12_tryTales_j17 fX12_tryTales_j22 fX12_tryTales_j64
  rw [if_neg n10, if_pos rfl]
  simp only [lt_s9]
  cases s with
  | none =>
    rw [if_pos he.1]
    exact ⟨_, rfl, new.1, new.2⟩
  | some c =>
    obtain ⟨len0, n0, r0, rfl, h2, h3, h4, h5, h6, h7⟩ := id he
    rw [h5, h6, h7, if_neg (nI_m1 (by omega))]
    by_cases c1 : len ≤ len0
    · rw [if_pos (nI_le c1 (by omega))]
      by_cases c2 : len = len0
      · rw [if_pos (by rw [c2])]
        by_cases c3 : n < n0
        · rw [if_pos (nI_lt c3 (by omega))]
          have e : bet (some (t3 len0 n0 r0)) (t3 len n r) = some (t3 len n r) := if_pos (by
            show len0 < len ∨ len = len0 ∧ n * 100000000 + r < n0 * 100000000 + r0
            omega)
          rw [e]
          exact ⟨_, rfl, new.1, new.2⟩
        · rw [if_neg (nI_nlt (by omega) (by omega))]
          by_cases c4 : n = n0
          · rw [if_pos (by rw [c4])]
            by_cases c5 : r0 ≤ r
            · rw [if_pos (nI_le c5 (by omega))]
              have e : bet (some (t3 len0 n0 r0)) (t3 len n r) = some (t3 len0 n0 r0) := if_neg (by
                show ¬ (len0 < len ∨ len = len0 ∧ n * 100000000 + r < n0 * 100000000 + r0)
                omega)
              rw [e]
              exact ⟨_, rfl, FT.rf, he⟩
            · rw [if_neg (nI_ge (by omega) (by omega))]
              have e : bet (some (t3 len0 n0 r0)) (t3 len n r) = some (t3 len n r) := if_pos (by
                show len0 < len ∨ len = len0 ∧ n * 100000000 + r < n0 * 100000000 + r0
                omega)
              rw [e]
              exact ⟨_, rfl, new.1, new.2⟩
          · rw [if_neg (fun z => c4 ((nI_eq (by omega) (by omega)).mp z))]
            have e : bet (some (t3 len0 n0 r0)) (t3 len n r) = some (t3 len0 n0 r0) := if_neg (by
              show ¬ (len0 < len ∨ len = len0 ∧ n * 100000000 + r < n0 * 100000000 + r0)
              omega)
            rw [e]
            exact ⟨_, rfl, FT.rf, he⟩
      · rw [if_neg (fun z => c2 ((nI_eq (by omega) (by omega)).mp z))]
        have e : bet (some (t3 len0 n0 r0)) (t3 len n r) = some (t3 len0 n0 r0) := if_neg (by
          show ¬ (len0 < len ∨ len = len0 ∧ n * 100000000 + r < n0 * 100000000 + r0)
          omega)
        rw [e]
        exact ⟨_, rfl, FT.rf, he⟩
    · rw [if_neg (nI_ge (by omega) (by omega))]
      have e : bet (some (t3 len0 n0 r0)) (t3 len n r) = some (t3 len n r) := if_pos (by
        show len0 < len ∨ len = len0 ∧ n * 100000000 + r < n0 * 100000000 + r0
        omega)
      rw [e]
      exact ⟨_, rfl, new.1, new.2⟩
theorem m_tt {E N F H : Nat} {G : Int32 → Int32 → Int32 → Int32 → Int32 → Bool} {pl m : Nat → Int32} (hN : 9 ≤ N) (hw : wfL E m) : ∀ (j n d l g r : Nat) (T : SS) (s : Option (Nat × Nat)), n + 1 + j = E → j < d → Mx E N F H G pl T → T.1 67 = m → pth E (loF m) (foN G m pl) n g l r → g.testBit l = true → loF m l = true → eU T s → ∃ T2, fX12_tryTales N d T (nI l) (nI g) (nI r) (nI (n + 1)) (nI (lnS E (lnF m) g)) = some T2 ∧ FT [61, 62] T T2 ∧ eU T2 ((dfs E (foN G m pl) (lnF m) (j + 1) l g r (lnS E (lnF m) g)).foldl bet s) := by
  intro j
  induction j with
  | zero =>
    intro n d l g r T s hj hd hM h67 hp hgl hll he
    have hE := hM.1
    obtain ⟨d, rfl⟩ : ∃ q, d = q + 1 := ⟨d - 1, by omega⟩
    obtain ⟨q1, q2, q3, q4, q5⟩ := pth_pc hE n g l r hp
    have hg := k_pcE E (by omega) g q1
    have hfull := hg.2.2 (by omega)
    have hr : r < 10000000 := Nat.lt_of_lt_of_le q4 (p7 (by omega))
    obtain ⟨T1, z1, z2, z3⟩ := m_tt_h (N := N) (l := l) (g := g) (rec := fX12_tryTales N d) he (show n + 1 ≤ 7 by omega) hr (lnS_bd (v := g) hE hw).1
    show ∃ T2, fX12_tryTales_b N (fX12_tryTales N d) T (nI l) (nI g) (nI r) (nI (n + 1)) (nI (lnS E (lnF m) g)) = some T2 ∧ _
    rw [z1]
    have e0 : dfs E (foN G m pl) (lnF m) (0 + 1) l g r (lnS E (lnF m) g) = [t3 (lnS E (lnF m) g) (n + 1) r] := by
      unfold dfs
      rw [Nat.sub_zero, show E = n + 1 by omega]
      congr 1
      have : ∀ i o, o + i ≤ E → dfo (foN G m pl (n + 1)) (lnF m) (dfs (n + 1) (foN G m pl) (lnF m) 0) l g r (lnS (n + 1) (lnF m) g) i o = [] := fun i => by
        induction i with
        | zero => intro o _; rfl
        | succ i ih =>
          intro o ho
          unfold dfo
          rw [hfull o (by omega)]
          exact ih (o + 1) (by omega)
      exact this _ 0 (by omega)
    rw [e0]
    have h22 : gi T1 52 22 = nI E := (hM.ft (X := []) z2 (fun k hk => nomatch hk)).2.1
    have loop : ∀ (i o n' : Nat), o + i = E → i < n' → fX12_tryTales_l84 N (fX12_tryTales N d) n' (nI l) (nI g) (nI r) (nI (n + 1)) (nI (lnS E (lnF m) g)) (nI o) T1 = some T1 := by
      intro i
      induction i with
      | zero =>
        intro o n' ho hn'
        obtain ⟨n', rfl⟩ : ∃ q, n' = q + 1 := ⟨n' - 1, by omega⟩
        unfold fX12_tryTales_l84
        rw [h22, if_pos (nI_le (by omega) (by omega))]
      | succ i ih =>
        intro o n' ho hn'
        obtain ⟨n', rfl⟩ : ∃ q, n' = q + 1 := ⟨n' - 1, by omega⟩
        have hbit := (k_sr g hg.2.1 o (by omega)).1
        unfold fX12_tryTales_l84 fX12_has
        rw [h22, if_neg (nI_ge (by omega) (by omega)), if_pos (hbit.mpr (hfull o (by omega))), bd_s rfl, if_neg n10, lt_s9, nI_1]
        exact ih (o + 1) n' (by omega) (by omega)
    exact ⟨T1, loop E 0 N (by omega) (by omega), z2.mono (by simp), z3⟩
  | succ j ih =>
    intro n d l g r T s hj hd hM h67 hp hgl hll he
    have hE := hM.1
    obtain ⟨d, rfl⟩ : ∃ q, d = q + 1 := ⟨d - 1, by omega⟩
    obtain ⟨q1, q2, q3, q4, q5⟩ := pth_pc hE n g l r hp
    have hg := k_pcE E (by omega) g q1
    have hr : r < 10000000 := Nat.lt_of_lt_of_le q4 (p7 (by omega))
    obtain ⟨T1, z1, z2, z3⟩ := m_tt_h (N := N) (l := l) (g := g) (rec := fX12_tryTales N d) he (show n + 1 ≤ 7 by omega) hr (lnS_bd (v := g) hE hw).1
    show ∃ T2, fX12_tryTales_b N (fX12_tryTales N d) T (nI l) (nI g) (nI r) (nI (n + 1)) (nI (lnS E (lnF m) g)) = some T2 ∧ _
    rw [z1]
    have e0 : dfs E (foN G m pl) (lnF m) (j + 1 + 1) l g r (lnS E (lnF m) g) = t3 (lnS E (lnF m) g) (n + 1) r :: dfo (foN G m pl (n + 1)) (lnF m) (dfs E (foN G m pl) (lnF m) (j + 1)) l g r (lnS E (lnF m) g) E 0 := by
      show t3 _ (E - (j + 1)) r :: dfo (foN G m pl (E - (j + 1))) _ _ _ _ _ _ _ _ = _
      rw [show E - (j + 1) = n + 1 by omega]
    rw [e0, List.foldl_cons]
    have hM1 := hM.ft (X := []) z2 (fun k hk => nomatch hk)
    have e67 : T1.1 67 = m := (z2.row (by decide) (by decide)).trans h67
    have loop : ∀ (i o n' : Nat) (T' : SS) (s' : Option (Nat × Nat)), FT [61, 62] T1 T' → eU T' s' → o + i = E → i < n' → ∃ T2, fX12_tryTales_l84 N (fX12_tryTales N d) n' (nI l) (nI g) (nI r) (nI (n + 1)) (nI (lnS E (lnF m) g)) (nI o) T' = some T2 ∧ FT [61, 62] T1 T2 ∧ eU T2 ((dfo (foN G m pl (n + 1)) (lnF m) (dfs E (foN G m pl) (lnF m) (j + 1)) l g r (lnS E (lnF m) g) i o).foldl bet s') := by
      intro i
      induction i with
      | zero =>
        intro o n' T' s' fT he' ho hn'
        obtain ⟨n', rfl⟩ : ∃ q, n' = q + 1 := ⟨n' - 1, by omega⟩
        unfold fX12_tryTales_l84
        rw [(hM1.ft fT (by decide)).2.1, if_pos (nI_le (by omega) (by omega))]
        exact ⟨T', rfl, fT, he'⟩
      | succ i ihi =>
        intro o n' T' s' fT he' ho hn'
        obtain ⟨n', rfl⟩ : ∃ q, n' = q + 1 := ⟨n' - 1, by omega⟩
        have ho' : o < E := by omega
        have hM' := hM1.ft fT (by decide)
        have e67' : T'.1 67 = m := (fT.row (by decide) (by decide)).trans e67
        have hbit := (k_sr g hg.2.1 o (by omega)).1
        unfold fX12_tryTales_l84 fX12_has dfo
        rw [hM'.2.1, if_neg (nI_ge (by omega) (by omega))]
        simp only [lt_s9, nI_1]
        cases hb : g.testBit o
        · rw [if_neg (fun z => by rw [hbit.mp z] at hb; cases hb), bd_s rfl, if_pos rfl, bd_s (m_loose hE (by rw [e67']; exact hw) ho'), e67', Bool.not_false, Bool.true_and]
          have hne : ¬ l = o := fun z => by
            rw [← z, hgl] at hb
            cases hb
          cases hlo : loF m o
          · rw [ifi0]
            have hf : foN G m pl (n + 1) l o = false := by
              unfold foN foF
              rw [hlo]
              simp
            rw [hf]
            exact ihi (o + 1) n' T' s' fT he' (by omega) (by omega)
          · rw [ifi1]
            obtain ⟨T2, y1, y2⟩ := m_goes (N := N) hM' q3 ho' (nI (n + 1))
            rw [e67'] at y1
            rw [b2_s y1]
            have f2 := fT.tr (FT.of y2)
            have he2 := eU_c (y2.row (by decide)) he'
            have hf : foN G m pl (n + 1) l o = gwF G m pl l o (nI (n + 1)) := by
              unfold foN foF
              rw [hlo, hll]
              simp [hne]
            rw [hf]
            cases hgw : gwF G m pl l o (nI (n + 1))
            · rw [ifi0]
              exact ihi (o + 1) n' T2 s' f2 he2 (by omega) (by omega)
            · rw [ifi1, if_pos rfl]
              have e67'' : T2.1 67 = m := (f2.row (by decide) (by decide)).trans e67
              rw [a7, ck_in (by omega) (by omega), ga_nI (by omega), e67'', (lnF_eq hw ho').1, nI_add, (k_or g hg.2.1 o (by omega)).1, k_10b, List.foldl_append]
              have hp2 : pth E (loF m) (foN G m pl) (n + 1) (g ||| 2 ^ o) o (10 * r + o) := ⟨ho', g, l, r, hp, by rw [hf, hgw], hb, rfl, rfl⟩
              obtain ⟨T3, x1, x2, x3⟩ := ih (n + 1) d o (g ||| 2 ^ o) (10 * r + o) T2 s' (by omega) (by omega) (hM1.ft f2 (by decide)) e67'' hp2 (k_ad g hg.2.1 o (by omega) hb).2.2.1 hlo he2
              rw [lnS_add ho' hb] at x1 x3
              rw [bd_s x1]
              exact ihi (o + 1) n' T3 _ (f2.tr x2) x3 (by omega) (by omega)
        · rw [if_pos (hbit.mpr hb), bd_s rfl, if_neg n10, Bool.not_true, Bool.false_and]
          exact ihi (o + 1) n' T' s' fT he' (by omega) (by omega)
    obtain ⟨T2, w1, w2, w3⟩ := loop E 0 N T1 _ FT.rf z3 (by omega) (by omega)
    exact ⟨T2, w1, (z2.mono (by simp)).tr w2, w3⟩
theorem m_tl {E N F H : Nat} {G : Int32 → Int32 → Int32 → Int32 → Int32 → Bool} {pl m : Nat → Int32} {T0 : SS} (hN : 9 ≤ N) (h0 : 0 < E) (hM : Mx E N F H G pl T0) (hm : T0.1 67 = m) (hw : wfL E m) (wh : Int32) : ∀ (j i n : Nat) (T : SS) (s : Option (Nat × Nat)), FT [61, 62] T0 T → eU T s → i + j = E → j < n → ∃ T2, fX12_tale_l30 N n wh (nI i) T = (if wh = 0 then some (T2, gi T2 52 31) else some (T2, gi T2 52 32)) ∧ FT [61, 62] T0 T2 ∧ eU T2 ((dft E (loF m) (foN G m pl) (lnF m) j i).foldl bet s) := by
  have hE := hM.1
  intro j
  induction j with
  | zero =>
    intro i n T s fT he hi hn
    obtain ⟨n, rfl⟩ : ∃ q, n = q + 1 := ⟨n - 1, by omega⟩
    unfold fX12_tale_l30
    rw [(hM.ft fT (by decide)).2.1, if_pos (nI_le (by omega) (by omega))]
    exact ⟨T, rfl, fT, he⟩
  | succ j ih =>
    intro i n T s fT he hi hn
    obtain ⟨n, rfl⟩ : ∃ q, n = q + 1 := ⟨n - 1, by omega⟩
    have hi' : i < E := by omega
    have hM' := hM.ft fT (by decide)
    have e67 : T.1 67 = m := (fT.row (by decide) (by decide)).trans hm
    unfold fX12_tale_l30 dft
    rw [hM'.2.1, if_neg (nI_ge (by omega) (by omega)), bd_s (m_loose hE (by rw [e67]; exact hw) hi'), e67]
    simp only [lt_s9, nI_1]
    cases hl : loF m i
    · rw [ifi0]
      exact ih (i + 1) n T s fT he (by omega) (by omega)
    · rw [ifi1, if_pos rfl, a7, ck_in (by omega) (by omega), ga_nI (by omega), e67, (lnF_eq hw hi').1, (k_slE i (by omega)).1, List.foldl_append]
      have hpw := k_pow i (by omega)
      obtain ⟨T2, z1, z2, z3⟩ := m_tt (N := N) (F := F) (H := H) (G := G) (pl := pl) (m := m) hN hw (E - 1) 0 10 i (2 ^ i) i T s (by omega) (by omega) hM' e67 ⟨rfl, hl, hi', rfl⟩ (by rw [hpw.2.2 i (by omega)]; simp) hl he
      rw [lnS_1 hi', show E - 1 + 1 = E by omega] at z3
      rw [lnS_1 hi'] at z1
      have z1' : fX12_tryTales N 10 T (nI i) (nI (2 ^ i)) (nI i) 1 (nI (lnF m i)) = some T2 := z1
      rw [bd_s z1']
      exact ih (i + 1) n T2 _ (fT.tr z2) z3 (by omega) (by omega)
theorem s_tale {N : Nat} (hN : 1000 ≤ N) {S T : SS} (h : Rel N S T) (a1 : Int32) : ∃ (r : Int32) (S' T' : SS), (fX11_tale N S a1 = some (S', r)) ∧ (fX12_tale N T a1 = some (T', r)) ∧ Rel N S' T' := by
  obtain ⟨E, ht, hm, hl, ha, hi, hs, hz⟩ := id h
  have hc := cx_of hm ha
  obtain ⟨hE, _, hv, hw⟩ := id hc
  unfold fX11_tale fX12_tale
  rcases there2 (N := N) hm with ⟨_, e1, e2⟩ | ⟨hp, e1, e2⟩
  · rw [bd_s e1, if_pos rfl, if_pos e2]
    exact ⟨_, S, T, rfl, rfl, h⟩
  rw [bd_s e1, if_neg n10, if_neg e2]
  rcases in01 (N := N) a1 with ⟨p1, p2⟩ | ⟨p1, p2, p3, p4, p5⟩
  · rw [bd_s p1, if_pos rfl]
    rcases p2 with p2 | ⟨p2, p3⟩
    · rw [if_pos p2]
      exact ⟨_, S, T, rfl, rfl, h⟩
    · rw [if_neg p2, if_neg p3]
      exact ⟨_, S, T, rfl, rfl, h⟩
  rw [bd_s p1, if_neg n10, if_neg p2, if_pos p3, lt_s9, lt_s9]
  obtain ⟨F, H, G, hK, hM⟩ := km_of hp hm hl
  have hpl : ∀ d, d < E → ∃ v, v ≤ 6 ∧ S.1 5 d = nI v := fun d hd => by
    obtain ⟨v, _, v2, v3, _⟩ := ((hm.2.2.2 hp).2.2.2 d hd).2.1
    exact ⟨v, v2, v3⟩
  obtain ⟨S2, mo2, z1, z2, z3⟩ := c_tle (N := N) hN hp hK hv hw hpl
  have f0 : FT [61, 62] T (pj (pj T 52 31 (-1)) 52 32 0) := (FT.pj (Or.inl rfl)).tr (FT.pj (Or.inr (Or.inl rfl)))
  obtain ⟨T2, y1, y2, y3⟩ := m_tl (N := N) (by omega) hp (hM.ft f0 (by decide)) rfl hw a1 E 0 N (pj (pj T 52 31 (-1)) 52 32 0) none FT.rf ⟨by rw [gi_pj, gi_pj]; rfl, by rw [gi_pj]; rfl⟩ (by omega) (by omega)
  have y1' : fX12_tale_l30 N N a1 0 (pj (pj T 52 31 (-1)) 52 32 0) = _ := y1
  rw [bd_s z1, y1']
  have hR : Rel N S2 T2 := rel_ft h (z2.mono (by decide)) ((f0.tr y2).mono (by decide))
  rw [tale_same hE] at z3
  have y3' : eU T2 ((dft E (loF (T.1 67)) (foN G (T.1 67) (S.1 5)) (lnF (T.1 67)) E 0).foldl bet none) := y3
  have fin : gi S2 29 11 = gi T2 52 31 ∧ gi S2 29 10 = gi T2 52 32 := by
    revert z3 y3'
    cases (dft E (loF (T.1 67)) (foN G (T.1 67) (S.1 5)) (lnF (T.1 67)) E 0).foldl bet none with
    | none =>
      intro z3 y3'
      obtain ⟨_, a2, a3⟩ := z3
      obtain ⟨b1, b2⟩ := y3'
      exact ⟨a3.trans b1.symm, a2.trans b2.symm⟩
    | some c =>
      intro z3 y3'
      obtain ⟨len, r, a1, a2, a3, a4, a5, a6⟩ := z3
      obtain ⟨len', n', r', b1, b2, b3, b4, b5, b6, b7⟩ := y3'
      rw [a1] at b1
      have c1 := congrArg Prod.fst b1
      have c2 := congrArg Prod.snd b1
      have c1' : len = len' := c1
      have c2' : pc mo2 * 100000000 + r = n' * 100000000 + r' := c2
      have hr : r = r' := by omega
      rw [a5, a6, b5, b6, c1', hr]
      exact ⟨rfl, rfl⟩
  rcases p5 with rfl | rfl
  · exact ⟨gi T2 52 31, S2, T2, by rw [if_pos (show nI 0 = 0 from rfl), fin.1], by rw [if_pos (show nI 0 = 0 from rfl)], hR⟩
  · exact ⟨gi T2 52 32, S2, T2, by rw [if_neg (by decide), fin.2], by rw [if_neg (by decide)], hR⟩
