/-! sell, undo, image, back -/
theorem nx_or (a b : Nat) : nI a ||| nI b = nI (a ||| b) := by
  apply Int32.toBitVec_inj.1
  show BitVec.ofNat 32 a ||| BitVec.ofNat 32 b = BitVec.ofNat 32 (a ||| b)
  apply BitVec.eq_of_getLsbD_eq
  intro i hi
  simp [hi]
theorem bN_or (t : List Nat) (v : Nat) : v ||| bN t 0 = bN t v := by
  apply Nat.eq_of_testBit_eq
  intro i
  rw [Nat.testBit_or, bN_tb, bN_tb, Nat.zero_testBit, Bool.false_or]
theorem bN_ltE {E : Nat} : ∀ (t : List Nat) (v : Nat), v < 2 ^ E → (∀ d, d ∈ t → d < E) → bN t v < 2 ^ E
  | [], _, h, _ => h
  | d :: t, v, h, hd => bN_ltE t _ (Nat.or_lt_two_pow h (Nat.pow_lt_pow_right (by omega) (hd d (List.mem_cons_self ..)))) (fun x hx => hd x (List.mem_cons_of_mem _ hx))
theorem p128 {E v : Nat} (hE : E ≤ 7) (h : v < 2 ^ E) : v < 128 := Nat.lt_of_lt_of_le h (Nat.le_trans (Nat.pow_le_pow_right (by omega) hE) (by decide))
theorem mn_nI {x : Nat} (h : x < 2 ^ 31) : mn 9999 (nI x) = nI (min 9999 x) := by
  unfold mn
  by_cases q : x < 9999
  · rw [if_pos (show nI x < 9999 from nI_lt (b := 9999) q (by omega)), Nat.min_eq_right (by omega)]
  · rw [if_neg (show ¬ nI x < 9999 from nI_nlt (b := 9999) (by omega) h), Nat.min_eq_left (by omega)]
    rfl
theorem sell_l {E N : Nat} (hE : E ≤ 7) {T0 : SS} : ∀ (t : List Nat) (n d v : Nat) (T : SS), Fr [67] T0 T → (∀ j, j ≠ 28 → T.1 67 j = T0.1 67 j) → T.1 67 28 = nI v → v < 128 → chn (fun d => T0.1 67 (14 + d)) (fun d => T0.1 67 (21 + d)) (d :: t) → (∀ x, x ∈ d :: t → x < E) → t.length + 1 < n → ∃ T2, fX12_sell_l100 N n (nI d) T = some (T2, T0.1 67 31) ∧ Fr [67] T0 T2 ∧ T2.1 67 = upd (T0.1 67) 28 (nI (bN (d :: t) v)) := by
  intro t
  induction t with
  | nil =>
    intro n d v T fT hj h28 hv hc hx hn
    obtain ⟨n, rfl⟩ : ∃ q, n = q + 2 := ⟨n - 2, by simp at hn; omega⟩
    have hd : d < E := hx d (List.mem_cons_self ..)
    unfold fX12_sell_l100
    rw [if_neg (nI_m1 (by omega)), lt_s9, a14, ck_in (by omega) (by omega), lt_s9, show ga T 67 28 = nI v from h28, (k_or v hv d (by omega)).1, ga_nI (by omega)]
    have hr : (pa T 67 28 (nI (v ||| 2 ^ d))).1 67 = upd (T0.1 67) 28 (nI (v ||| 2 ^ d)) := by
      rw [row_pa, if_pos rfl, show (28 : Int32).toNatClampNeg = 28 from rfl]
      funext j
      by_cases e : j = 28
      · rw [e, pk_us, pk_us]
      · rw [pk_un e, pk_un e, hj j e]
    rw [hr, pk_un (by omega), show T0.1 67 (14 + d) = -1 from hc]
    unfold fX12_sell_l100
    rw [if_pos rfl]
    refine ⟨_, ?_, fT.tr (Fr.pa (by simp)), hr⟩
    show some (_, (pa T 67 28 (nI (v ||| 2 ^ d))).1 67 31) = _
    rw [hr, pk_un (by omega)]
  | cons e t ih =>
    intro n d v T fT hj h28 hv hc hx hn
    obtain ⟨n, rfl⟩ : ∃ q, n = q + 1 := ⟨n - 1, by omega⟩
    have hd : d < E := hx d (List.mem_cons_self ..)
    have hx' : ∀ x, x ∈ e :: t → x < E := fun x q => hx x (List.mem_cons_of_mem _ q)
    simp at hn
    unfold fX12_sell_l100
    rw [if_neg (nI_m1 (by omega)), lt_s9, a14, ck_in (by omega) (by omega), lt_s9, show ga T 67 28 = nI v from h28, (k_or v hv d (by omega)).1, ga_nI (by omega)]
    have hr : (pa T 67 28 (nI (v ||| 2 ^ d))).1 67 = upd (T0.1 67) 28 (nI (v ||| 2 ^ d)) := by
      rw [row_pa, if_pos rfl, show (28 : Int32).toNatClampNeg = 28 from rfl]
      funext j
      by_cases e : j = 28
      · rw [e, pk_us, pk_us]
      · rw [pk_un e, pk_un e, hj j e]
    rw [hr, pk_un (by omega), show T0.1 67 (14 + d) = nI e from hc.1]
    exact ih n e (v ||| 2 ^ d) _ (fT.tr (Fr.pa (by simp))) (fun j hj' => by rw [hr, pk_un hj']) (by rw [hr, pk_us]) (k_or v hv d (by omega)).2 hc.2.2 hx' (by omega)
theorem wf_sell {E : Nat} {m m' : Nat → Int32} (hE : E ≤ 7) (hw : wfL E m) {d v : Nat} (hd : d < E) (h28 : m 28 = nI v) (hv : v < 2 ^ E) (e28 : m' 28 = nI (bN (tw m d) v)) (h31 : ∃ c, c ≤ 9999 ∧ m' 31 = nI c) (hj : ∀ j, j ≠ 28 → j ≠ 31 → m' j = m j) : wfL E m' := by
  obtain ⟨t1, t2, _, _⟩ := wf_tw hE hw hd
  obtain ⟨h1, ⟨L, g1, g2⟩, h3, _, _, _, h7⟩ := id hw
  have hb : bN (tw m d) v < 2 ^ E := bN_ltE _ _ hv t1.2.2.2
  refine ⟨fun x hx => by rw [hj x (by omega) (by omega), hj (7 + x) (by omega) (by omega)]; exact h1 x hx, ⟨L, tls_c (fun x hx => ⟨hj _ (by omega) (by omega), hj _ (by omega) (by omega)⟩) g1, fun t ht x y hx hy => ?_⟩, ⟨_, hb, e28⟩, any32 _, any32 _, h31, by rw [hj 32 (by omega) (by omega)]; exact h7⟩
  have T := tls_tl g1 ht
  have x7 := T.2.2.2 x hx
  have y7 := T.2.2.2 y hy
  have hs := g2 t ht x y hx hy
  rw [h28, (k_sr v (p128 hE hv) x (by omega)).2, (k_sr v (p128 hE hv) y (by omega)).2] at hs
  rw [e28, (k_sr _ (p128 hE hb) x (by omega)).2, (k_sr _ (p128 hE hb) y (by omega)).2, bN_tb, bN_tb, hs]
  congr 1
  have key : ∀ z, z ∈ t → (z ∈ tw m d ↔ tw m d = t) := fun z hz => by
    constructor
    · intro q
      have e1 := (tw_eq hE t1 q).1
      have e2 := (tw_eq hE T hz).1
      rw [← e1, e2]
    · intro q
      rw [q]
      exact hz
  exact decide_eq_decide.mpr ((key x hx).trans (key y hy).symm)
theorem s_sell {N : Nat} (hN : 10000 ≤ N) {S T : SS} (h : Rel N S T) (a1 : Int32) : ∃ (r : Int32) (S' T' : SS), (fX11_sell N S a1 = some (S', r)) ∧ (fX12_sell N T a1 = some (T', r)) ∧ Rel N S' T' := by
  obtain ⟨E, hR⟩ := relE_of h
  obtain ⟨hE, _, hv, hw⟩ := relE_cx hR
  have hm := hR.2.1
  have href : ∀ w, w < 5 → ∃ S' T', (b2 (fX11_refuse N S (nI w)) fun S12 r11 => some (S12, r11)) = some (S', -1) ∧ fX12_sell_j60 N a1 (nI w) T = some (T', -1) ∧ Rel N S' T' := fun w hw5 => by
    obtain ⟨S', T', r1, r2, r3⟩ := refs hw5 hR
    refine ⟨S', T', by rw [b2_s r1], ?_, E, r3⟩
    unfold fX12_sell_j60
    rw [b2_s r2, if_neg n10]
  unfold fX11_sell fX12_sell fX11_sellRefusal
  rcases end3 (N := N) hm a1 with ⟨e1, e2⟩ | ⟨d, hd, rfl, e1, e2⟩
  · rw [bd_s e1, bd_s e2, if_pos rfl, if_pos rfl, bd_s rfl, if_neg (by decide)]
    obtain ⟨S', T', r1, r2, r3⟩ := href 0 (by omega)
    exact ⟨-1, S', T', r1, r2, r3⟩
  have h7 : d < 7 := by omega
  rw [bd_s e1, bd_s e2, if_neg n10, if_neg n10, bd_s (c_sold hE hv hw hd), bd_s (m_sold hE hw hd), a14, a21]
  rw [ck_in (n := 7) h7 (by omega), ck_in (n := 7) h7 (by omega), ck_in (n := 214) (by omega) (by omega), ck_in (n := 214) (by omega) (by omega), ga_nI (by omega), ga_nI (by omega), ga_nI (by omega), ga_nI (by omega), (hv.2.1 d hd).2.2.2, (hv.2.1 d hd).2.2.1]
  by_cases h1 : T.1 67 (21 + d) = -1
  · rw [if_pos h1, if_pos h1]
    cases hs : sdF (T.1 67) d
    · rw [ifi0, ifi0]
      by_cases h2 : T.1 67 (14 + d) = -1
      · rw [if_pos h2, if_pos h2, bd_s rfl, if_neg (by decide)]
        obtain ⟨S', T', r1, r2, r3⟩ := href 3 (by omega)
        exact ⟨-1, S', T', r1, r2, r3⟩
      · rw [if_neg h2, if_neg h2, bd_s rfl, if_pos rfl]
        obtain ⟨S1, T1, k1, k2, k3, k4, k5, k6⟩ := keeps hN hR
        obtain ⟨_, _, hv1, hw1⟩ := relE_cx k3
        have e67 : T1.1 67 = T.1 67 := k6.1 67 (by decide) (by decide)
        obtain ⟨c, c1, c2⟩ := coin_eq hw1
        obtain ⟨v, v1, v2⟩ := hw1.2.2.1
        obtain ⟨l1, l2, l3, l4⟩ := tw_mem hE hw1 hd
        have hlg : lgF (T1.1 67) d ≤ 20 * 7 := by
          unfold lgF
          have : ∀ t : List Nat, (∀ x, x ∈ t → x < E) → (t.map (lnF (T1.1 67))).sum ≤ 20 * t.length := fun t => by
            induction t with
            | nil => simp
            | cons x t ih =>
              intro hx
              have q1 := ih (fun y hy => hx y (List.mem_cons_of_mem _ hy))
              have q2 := (lnF_eq hw1 (hx x (List.mem_cons_self ..))).2.2
              simp only [List.map_cons, List.sum_cons, List.length_cons]
              omega
          have := this (tw (T1.1 67) d) (wf_tw hE hw1 hd).1.2.2.2
          omega
        have hprod : lgF (T1.1 67) d * (tw (T1.1 67) d).length ≤ 140 * 7 := Nat.mul_le_mul (by omega) (by omega)
        have ep : nI (lgF (T1.1 67) d) * nI (tw (T1.1 67) d).length / 4 = nI (lgF (T1.1 67) d * (tw (T1.1 67) d).length / 4) := by
          rw [pk_mul, show (4 : Int32) = nI 4 from rfl, pk_div (by omega) (by omega) (by omega)]
        have g8 : gi S1 18 8 = nI c := hv1.2.2.2.2.2.1.trans c2
        have g31 : ga T1 67 31 = nI c := c2
        have hd0 : hdF (T1.1 67) d = d := hd_self (by rw [e67]; exact h1)
        obtain ⟨r, w1, w2, w3, w4, w5⟩ := tw_cons hE hw1 hd
        rw [hd0] at w1 w2 w3 w4
        unfold fX12_sell_j60
        rw [bd_s k1, b2_s ref_no, if_pos rfl, bd_s k2, bd_s (c_tale (by omega) hE hv1 hw1 hd), bd_s (c_price (by omega) hE hv1 hw1 hd), bd_s (m_price (by omega) hE hw1 hd), ep, g8, g31, nI_add, mn_nI (by omega), lt_s9, lt_s9, lt_s9]
        have hr1 : (pa T1 67 31 (nI (min 9999 (c + lgF (T1.1 67) d * (tw (T1.1 67) d).length / 4)))).1 67 = upd (T1.1 67) 31 (nI (min 9999 (c + lgF (T1.1 67) d * (tw (T1.1 67) d).length / 4))) := by
          rw [row_pa, if_pos rfl]
          rfl
        have hmin : min 9999 (c + lgF (T1.1 67) d * (tw (T1.1 67) d).length / 4) ≤ 9999 := Nat.min_le_left _ _
        revert hr1 hmin
        generalize min 9999 (c + lgF (T1.1 67) d * (tw (T1.1 67) d).length / 4) = K
        intro hr1 hmin
        obtain ⟨T2, y1, y2, y3⟩ := sell_l (N := N) (T0 := pa T1 67 31 (nI K)) hE r N d v _ Fr.rf (fun j _ => rfl) (by rw [hr1, pk_un (by omega), v2]) (p128 hE v1) (by
          have ec : chn (fun d => (pa T1 67 31 (nI K)).1 67 (14 + d)) (fun d => (pa T1 67 31 (nI K)).1 67 (21 + d)) (d :: r) := chn_c (fun x hx => by
            have := w3 x hx
            rw [hr1]
            exact ⟨pk_un (by omega), pk_un (by omega)⟩) w2
          exact ec) w3 (by omega)
        have e5 : gi (pj S1 18 8 (nI K)) 18 5 = nI v := by
          have : gi (pj S1 18 8 (nI K)) 18 5 = gi S1 18 5 := rfl
          rw [this, hv1.2.2.1, v2]
        rw [y1, e5, nx_or, bN_or]
        have hl := (hv1.slot (v := nI K) hE (j := 8) (by omega) (by omega)).slot (v := nI (bN (tw (T1.1 67) d) v)) hE (j := 5) (by omega) (by omega)
        rw [hr1, ← w1] at y3
        refine ⟨nI K, _, T2, rfl, ?_, E, rel_act k3 ((Fr.pj (by simp)).tr (Fr.pj (by simp))) ((Fr.pa (by simp)).tr (y2.mono (by simp))) ?_ ?_ (fun j hj => ?_)⟩
        · rw [hr1, pk_us]
        · rw [y3]
          exact hl
        · rw [y3]
          exact wf_sell hE hw1 hd v2 v1 pk_us ⟨K, hmin, by rw [pk_un (by omega), pk_us]⟩ (fun j q1 q2 => by rw [pk_un q1, pk_un q2])
        · rw [y3, pk_un (by omega), pk_un (by omega)]
    · rw [ifi1, ifi1, bd_s rfl, if_neg (by decide)]
      obtain ⟨S', T', r1, r2, r3⟩ := href 2 (by omega)
      exact ⟨-1, S', T', r1, r2, r3⟩
  · rw [if_neg h1, if_neg h1, bd_s rfl, if_neg (by decide)]
    obtain ⟨S', T', r1, r2, r3⟩ := href 1 (by omega)
    exact ⟨-1, S', T', r1, r2, r3⟩
