/-! seen, game, rests -/
theorem smsn {P : Nat → Nat → Prop} {S : SS} {i p1 p2 p3 v : Int32} {a b c k j : Nat} (h1 : ∀ x, ¬ P a x) (h2 : ∀ x, ¬ P b x) (h3 : ∀ x, ¬ P c x) (h4 : ¬ P k j) : Sm P S (pj (pa (pa (pa S a i p1) b i p2) c i p3) k j v) := (((sm_pa h1).tr (sm_pa h2)).tr (sm_pa h3)).tr (sm_pj h4)
theorem s_seen {N : Nat} {S T : SS} (h : Rel N S T) (a1 a2 a3 : Int32) (hb : isb a3 = true) : ∃ (r : Int32) (S' T' : SS), (fX11_seen N S a1 a2 a3 = some (S', r)) ∧ (fX12_seen N T a1 a2 a3 = some (T', r)) ∧ Rel N S' T' := by
  obtain ⟨E, ht, hm, hl, ha, hi, ⟨n, s1, s2, s3, s4⟩, hz⟩ := id h
  have hE := hm.2.2.1
  obtain ⟨hb1, hb2⟩ := nb_isb hb
  unfold fX11_seen fX12_seen
  rcases two3 (N := N) hm a1 a2 with ⟨e1, e2⟩ | ⟨a, b, qa, qb, hn, rfl, rfl, e1, e2, e3, e4⟩
  · rw [bd_s e1]
    refine ⟨-1, S, T, ?_, rfl, h⟩
    rcases e2 with e2 | ⟨e2, e3 | ⟨e3, e4⟩⟩
    · rw [bd_s e2]
      rfl
    · rw [bd_s e2, bd_s e3]
      rfl
    · rw [bd_s e2, bd_s e3, if_pos e4]
      rfl
  · rw [bd_s e1, bd_s e2, bd_s e3, if_neg n10, if_neg n10, if_neg n10, if_neg e4, s3]
    by_cases h10 : n = 10
    · subst h10
      have e : fX7_add N S (nI a) (nI b) a3 = some (S, -1) := by
        unfold fX7_add
        rw [s2, if_neg (by decide)]
      rw [b2_s e, if_pos (by decide)]
      exact ⟨_, S, T, rfl, rfl, h⟩
    · have hn10 : n < 10 := by omega
      have e : fX7_add N S (nI a) (nI b) a3 = some (pj (pa (pa (pa S 41 (nI n) (nI a)) 42 (nI n) (nI b)) 43 (nI n) a3) 40 5 (nI (n + 1)), nI (n + 1)) := by
        unfold fX7_add
        rw [s2, if_pos (show nI n < 10 from nI_lt (b := 10) hn10 (by omega)), ck_in hn10 (by omega), lt_s9]
        have g1 : gi (pa S 41 (nI n) (nI a)) 40 5 = nI n := s2
        have g2 : gi (pa (pa S 41 (nI n) (nI a)) 42 (nI n) (nI b)) 40 5 = nI n := s2
        have g3 : gi (pa (pa (pa S 41 (nI n) (nI a)) 42 (nI n) (nI b)) 43 (nI n) a3) 40 5 = nI n := s2
        rw [g1, ck_in hn10 (by omega), lt_s9, g2, ck_in hn10 (by omega), lt_s9, hb2, g3, lt_s9, nI_1]
        rfl
      rw [b2_s e, if_neg (show ¬ nI n = 10 from fun z => h10 ((nI_eq (b := 10) (by omega) (by omega)).mp z)), ck_in hn10 (by omega), lt_s9]
      have g1 : gi (pa T 74 (nI n) (nI a)) 52 42 = nI n := s3
      have g2 : gi (pa (pa T 74 (nI n) (nI a)) 75 (nI n) (nI b)) 52 42 = nI n := s3
      have g3 : gi (pa (pa (pa T 74 (nI n) (nI a)) 75 (nI n) (nI b)) 76 (nI n) a3) 52 42 = nI n := s3
      rw [g1, ck_in hn10 (by omega), lt_s9, g2, ck_in hn10 (by omega), lt_s9, hb2, g3, lt_s9, nI_1]
      refine ⟨nI (n + 1), _, _, rfl, rfl, E, rTape_c (smsn (by simp [tapeC]) (by simp [tapeC]) (by simp [tapeC]) (by simp [tapeC])) (smsn (by simp [tapeM]) (by simp [tapeM]) (by simp [tapeM]) (by simp [tapeM])) ht, rMill_c (smsn (by simp [millC]) (by simp [millC]) (by simp [millC]) (by simp [millC])) (smsn (by simp [millM]) (by simp [millM]) (by simp [millM]) (by simp [millM])) hm, rLaw_c (smsn (by simp [lawC]) (by simp [lawC]) (by simp [lawC]) (by simp [lawC])) rfl (smsn (by simp [lawM]) (by simp [lawM]) (by simp [lawM]) (by simp [lawM])) hl, rAct_c (smsn (by simp [actC]) (by simp [actC]) (by simp [actC]) (by simp [actC])) (smsn (by simp [actM]) (by simp [actM]) (by simp [actM]) (by simp [actM])) ha, rImg_c (smsn (by simp [imgC]) (by simp [imgC]) (by simp [imgC]) (by simp [imgC])) (smsn (by simp [imgM]) (by simp [imgM]) (by simp [imgM]) (by simp [imgM])) hi, ⟨n + 1, by omega, rfl, rfl, ?_⟩, rMisc_c (smsn (by simp [miscC]) (by simp [miscC]) (by simp [miscC]) (by simp [miscC])) (smsn (by simp [miscM]) (by simp [miscM]) (by simp [miscM]) (by simp [miscM])) hz⟩
      intro j hj
      show upd (S.1 41) (nI n).toNatClampNeg (nI a) j = upd (T.1 74) (nI n).toNatClampNeg (nI a) j ∧ upd (S.1 42) (nI n).toNatClampNeg (nI b) j = upd (T.1 75) (nI n).toNatClampNeg (nI b) j ∧ upd (S.1 43) (nI n).toNatClampNeg a3 j = upd (T.1 76) (nI n).toNatClampNeg a3 j ∧ (upd (S.1 43) (nI n).toNatClampNeg a3 j = 0 ∨ upd (S.1 43) (nI n).toNatClampNeg a3 j = 1) ∧ ∃ x y, x < E ∧ y < E ∧ x ≠ y ∧ upd (S.1 41) (nI n).toNatClampNeg (nI a) j = nI x ∧ upd (S.1 42) (nI n).toNatClampNeg (nI b) j = nI y
      rw [nI_clamp (by omega)]
      by_cases hjn : j = n
      · subst hjn
        simp only [pk_us]
        exact ⟨trivial, trivial, trivial, hb1, a, b, qa, qb, hn, rfl, rfl⟩
      · rw [pk_un hjn, pk_un hjn, pk_un hjn, pk_un hjn, pk_un hjn, pk_un hjn]
        exact s4 j (by omega)
/-! games -/
theorem k_dye : ∀ v, v ≤ 20 → ∀ x, x < 4 → mn 20 (nI v + nI x) = nI (min 20 (v + x)) := by decide +kernel
theorem k_dye0 : ∀ v, v ≤ 20 → mn 20 (nI v + 0) = nI v := by decide +kernel
/-- the row with both dyed on -/
def dyF (m : Nat → Int32) (a b : Nat) (x y : Nat) : Nat → Int32 := upd (upd m a (mn 20 (m a + nI x))) b (mn 20 (m b + nI y))
def gpF (G : Int32 → Int32 → Int32 → Int32 → Int32 → Bool) (m pl : Nat → Int32) (a b x y o : Nat) : Bool := !(decide (o = a)) && gwF G (dyF m a b x y) pl a o 1
def gmF (G : Int32 → Int32 → Int32 → Int32 → Int32 → Bool) (m pl : Nat → Int32) (E a b x y : Nat) : Int32 := nI (cntF (gpF G m pl a b x y) E) - nI x
theorem cntF_s (P : Nat → Bool) (n : Nat) : cntF P (n + 1) = cntF P n + (if P n then 1 else 0) := rfl
theorem c_has_l {E N F H a b x y : Nat} {G : Int32 → Int32 → Int32 → Int32 → Int32 → Bool} {pl m : Nat → Int32} (hw : wfL E m) (ha : a < E) (hb : b < E) (hab : a ≠ b) (hx : x < 4) (hy : y < 4) : ∀ (j i n : Nat) (S : SS), Kx E N F H G pl S → Lv E 18 S m → i + j = E → j < n → ∃ S2, fX1_has_l14 N n (nI a) (nI b) (nI x) (nI y) (mn 20 (m a + nI x)) (nI (cntF (gpF G m pl a b x y) i)) (nI i) S = some (S2, gmF G m pl E a b x y) ∧ Fr [16, 17] S S2 := by
  intro j
  induction j with
  | zero =>
    intro i n S hk hv hi hn
    obtain ⟨n, rfl⟩ : ∃ q, n = q + 1 := ⟨n - 1, by omega⟩
    unfold fX1_has_l14
    rw [hv.1, if_pos (nI_le (by omega) (by have := hk.1; omega)), show i = E by omega]
    exact ⟨S, rfl, Fr.rf⟩
  | succ j ih =>
    intro i n S hk hv hi hn
    obtain ⟨n, rfl⟩ : ∃ q, n = q + 1 := ⟨n - 1, by omega⟩
    have hE := hk.1
    have hi' : i < E := by omega
    unfold fX1_has_l14 fX1_has_j49 fX1_dyedOn
    rw [hv.1, if_neg (nI_ge (by omega) (by omega))]
    by_cases h1 : i = a
    · subst h1
      rw [if_pos rfl, lt_s9, nI_1]
      have : cntF (gpF G m pl i b x y) (i + 1) = cntF (gpF G m pl i b x y) i := by
        rw [cntF_s]
        unfold gpF
        simp
      rw [← this]
      exact ih (i + 1) n S hk hv (by omega) (by omega)
    · rw [if_neg (fun z => h1 ((nI_eq (by omega) (by omega)).mp z))]
      have hm' : dyF m a b x y a = mn 20 (m a + nI x) := by
        unfold dyF
        rw [pk_un hab, pk_us]
      have hm7 : ∀ q, q < E → dyF m a b x y (7 + q) = m (7 + q) := fun q hq => by
        unfold dyF
        rw [pk_un (by omega), pk_un (by omega)]
      have hm32 : dyF m a b x y 32 = m 32 := by
        unfold dyF
        rw [pk_un (by omega), pk_un (by omega)]
      have hgen : ∀ z : Int32, z = dyF m a b x y i → ∃ S2, (b2 (fX2_allows N S (ab (mn 20 (m a + nI x) - z)) (ab (pl a - pl i)) (m (7 + a) + m (7 + i)) 1 (m 32)) fun S11 r10 => if r10 = 0 then lt (nI i + 1) fun v13 => fX1_has_l14 N n (nI a) (nI b) (nI x) (nI y) (mn 20 (m a + nI x)) (nI (cntF (gpF G m pl a b x y) i)) v13 S11 else lt (nI (cntF (gpF G m pl a b x y) i) + 1) fun v14 => lt (nI i + 1) fun v15 => fX1_has_l14 N n (nI a) (nI b) (nI x) (nI y) (mn 20 (m a + nI x)) v14 v15 S11) = some (S2, gmF G m pl E a b x y) ∧ Fr [16, 17] S S2 := fun z hz => by
        obtain ⟨S2, z1, z2⟩ := hk.2.2.2.2.2.2.2 S Sm.rf rfl (ab (mn 20 (m a + nI x) - z)) (ab (pl a - pl i)) (m (7 + a) + m (7 + i)) 1 (m 32)
        rw [b2_s z1]
        have hk2 := hk.f z2 kx1617
        have hv2 := hv.f z2 (fr1617 (by omega))
        have hg : gpF G m pl a b x y i = G (ab (mn 20 (m a + nI x) - z)) (ab (pl a - pl i)) (m (7 + a) + m (7 + i)) 1 (m 32) := by
          unfold gpF gwF
          rw [decide_eq_false h1, hm', ← hz, hm7 a ha, hm7 i hi', hm32]
          rfl
        have h2 := ih (i + 1) n S2 hk2 hv2 (by omega) (by omega)
        rw [cntF_s, hg] at h2
        simp only [lt_s9, nI_1]
        cases hc : G (ab (mn 20 (m a + nI x) - z)) (ab (pl a - pl i)) (m (7 + a) + m (7 + i)) 1 (m 32)
        · rw [ifi0]
          rw [hc] at h2
          obtain ⟨S3, y1, y2⟩ := h2
          exact ⟨S3, y1, z2.tr y2⟩
        · rw [ifi1]
          rw [hc] at h2
          obtain ⟨S3, y1, y2⟩ := h2
          exact ⟨S3, y1, z2.tr y2⟩
      have hla := hv.2.1 a ha
      have hli := hv.2.1 i hi'
      by_cases h2 : i = b
      · subst h2
        rw [if_pos rfl]
        have h7 : i < 7 := by omega
        simp (disch := omega) only [ck_in, ga_nI]
        rw [hli.1, bd_s rfl, lt_s9]
        simp (disch := omega) only [lt_s9, hla.2.1, hli.2.1, hk.2.2.2.2.2.2.1 a ha, hk.2.2.2.2.2.2.1 i hi', hv.2.2.2.2.2.2]
        refine hgen _ ?_
        unfold dyF
        rw [pk_us]
      · rw [if_neg (fun z => h2 ((nI_eq (by omega) (by omega)).mp z))]
        have h7 : i < 7 := by omega
        simp (disch := omega) only [ck_in, ga_nI]
        rw [hli.1, bd_s rfl, lt_s9]
        simp (disch := omega) only [lt_s9, hla.2.1, hli.2.1, hk.2.2.2.2.2.2.1 a ha, hk.2.2.2.2.2.2.1 i hi', hv.2.2.2.2.2.2]
        refine hgen _ ?_
        unfold dyF
        rw [pk_un h2, pk_un h1]
        obtain ⟨c1, c2⟩ := clF_eq hw hi'
        rw [c1, k_dye0 _ c2]
theorem c_has {E N F H a b x y : Nat} {G : Int32 → Int32 → Int32 → Int32 → Int32 → Bool} {pl m : Nat → Int32} {S : SS} (hN : 9 ≤ N) (hk : Kx E N F H G pl S) (hv : Lv E 18 S m) (hw : wfL E m) (ha : a < E) (hb : b < E) (hab : a ≠ b) (hx : x < 4) (hy : y < 4) : ∃ S2, fX1_has N S (nI a) (nI b) (nI x) (nI y) = some (S2, gmF G m pl E a b x y) ∧ Fr [16, 17] S S2 := by
  have hE := hk.1
  have e : fX1_dyedOn N S (nI a) (nI x) = some (mn 20 (m a + nI x)) := by
    unfold fX1_dyedOn
    rw [ck_in (by omega) (by omega), ga_nI (by omega), (hv.2.1 a ha).1]
  unfold fX1_has
  rw [bd_s e]
  exact c_has_l hw ha hb hab hx hy E 0 N S hk hv (by omega) (by omega)
theorem dy_nI {E a b x y : Nat} {m : Nat → Int32} (hw : wfL E m) (ha : a < E) (hb : b < E) (hx : x < 4) (hy : y < 4) {o : Nat} (ho : o < E) : ∃ v, v ≤ 20 ∧ dyF m a b x y o = nI v := by
  unfold dyF
  by_cases h1 : o = b
  · subst h1
    obtain ⟨c1, c2⟩ := clF_eq hw hb
    rw [pk_us, c1, k_dye _ c2 y hy]
    exact ⟨_, Nat.min_le_left _ _, rfl⟩
  · rw [pk_un h1]
    by_cases h2 : o = a
    · subst h2
      obtain ⟨c1, c2⟩ := clF_eq hw ho
      rw [pk_us, c1, k_dye _ c2 x hx]
      exact ⟨_, Nat.min_le_left _ _, rfl⟩
    · rw [pk_un h2]
      obtain ⟨c1, c2⟩ := clF_eq hw ho
      exact ⟨_, c2, c1⟩
theorem gw_sym {E : Nat} {G : Int32 → Int32 → Int32 → Int32 → Int32 → Bool} {m pl : Nat → Int32} {a b : Nat} (n : Int32) (ha : ∃ v, v ≤ 20 ∧ m a = nI v) (hb : ∃ v, v ≤ 20 ∧ m b = nI v) (hpl : ∀ d, d < E → ∃ v, v ≤ 6 ∧ pl d = nI v) (ha' : a < E) (hb' : b < E) : gwF G m pl a b n = gwF G m pl b a n := by
  obtain ⟨v, v1, v2⟩ := ha
  obtain ⟨w, w1, w2⟩ := hb
  obtain ⟨p, p1, p2⟩ := hpl a ha'
  obtain ⟨q, q1, q2⟩ := hpl b hb'
  unfold gwF
  rw [v2, w2, p2, q2, ab_comm (a := v) (b := w) (by omega) (by omega), ab_comm (a := p) (b := q) (by omega) (by omega), Int32.add_comm (m (7 + a))]
theorem m_game_l {E N F H a b x y : Nat} {G : Int32 → Int32 → Int32 → Int32 → Int32 → Bool} {pl m : Nat → Int32} {T0 : SS} (hpl : ∀ d, d < E → ∃ v, v ≤ 6 ∧ pl d = nI v) (hw : wfL E m) (ha : a < E) (hb : b < E) (hx : x < 4) (hy : y < 4) (u v : Int32) : ∀ (j i n : Nat) (T : SS), Mx E N F H G pl T → T.1 67 = dyF m a b x y → i + j = E → j < n → ∃ T2, fX12_gameOf_l61 N n (nI a) (nI b) (nI x) u v (nI (cntF (gpF G m pl a b x y) i)) (nI i) T = some (pa (pa T2 67 (nI a) u) 67 (nI b) v, gmF G m pl E a b x y) ∧ Fr [61, 62] T T2 := by
  intro j
  induction j with
  | zero =>
    intro i n T hk hv hi hn
    have hE := hk.1
    obtain ⟨n, rfl⟩ : ∃ q, n = q + 1 := ⟨n - 1, by omega⟩
    unfold fX12_gameOf_l61
    rw [hk.2.1, if_pos (nI_le (by omega) (by omega)), show i = E by omega, a0, a0, ck_in (by omega) (by omega), lt_s9, ck_in (by omega) (by omega), lt_s9]
    exact ⟨T, rfl, Fr.rf⟩
  | succ j ih =>
    intro i n T hk hv hi hn
    obtain ⟨n, rfl⟩ : ∃ q, n = q + 1 := ⟨n - 1, by omega⟩
    have hE := hk.1
    have hi' : i < E := by omega
    unfold fX12_gameOf_l61
    rw [hk.2.1, if_neg (nI_ge (by omega) (by omega))]
    simp only [lt_s9, Int32.add_zero, nI_1]
    by_cases h1 : i = a
    · subst h1
      rw [if_pos rfl]
      have : cntF (gpF G m pl i b x y) (i + 1) = cntF (gpF G m pl i b x y) i := by
        rw [cntF_s]
        unfold gpF
        simp
      rw [← this]
      exact ih (i + 1) n T hk hv (by omega) (by omega)
    · rw [if_neg (fun z => h1 ((nI_eq (by omega) (by omega)).mp z))]
      obtain ⟨T2, z1, z2⟩ := m_goes hk ha hi' 1
      rw [b2_s z1, hv]
      have hk2 := hk.f z2 mx6162
      have hv2 : T2.1 67 = dyF m a b x y := (z2.row (by decide)).trans hv
      have hg : gpF G m pl a b x y i = gwF G (dyF m a b x y) pl a i 1 := by
        unfold gpF
        rw [decide_eq_false h1]
        rfl
      cases hc : gwF G (dyF m a b x y) pl a i 1
      · obtain ⟨T3, y1, y2⟩ := m_goes hk2 hi' ha 1
        rw [hv2, ← gw_sym 1 (dy_nI hw ha hb hx hy ha) (dy_nI hw ha hb hx hy hi') hpl ha hi', hc] at y1
        have hk3 := hk2.f y2 mx6162
        have hv3 : T3.1 67 = dyF m a b x y := (y2.row (by decide)).trans hv2
        rw [ifi0, b2_s y1, ifi0]
        have h2 := ih (i + 1) n T3 hk3 hv3 (by omega) (by omega)
        rw [cntF_s, hg, hc] at h2
        obtain ⟨T4, x1, x2⟩ := h2
        exact ⟨T4, x1, (z2.tr y2).tr x2⟩
      · rw [ifi1]
        have h2 := ih (i + 1) n T2 hk2 hv2 (by omega) (by omega)
        rw [cntF_s, hg, hc] at h2
        obtain ⟨T4, x1, x2⟩ := h2
        exact ⟨T4, x1, z2.tr x2⟩
theorem upd_self {f : Nat → Int32} {k : Nat} {g : Nat → Int32} (h : ∀ j, j ≠ k → g j = f j) : upd g k (f k) = f := by
  funext j
  by_cases e : j = k
  · subst e
    exact pk_us
  · rw [pk_un e, h j e]
theorem m_game {E N F H a b x y : Nat} {G : Int32 → Int32 → Int32 → Int32 → Int32 → Bool} {pl : Nat → Int32} {T : SS} (hN : 9 ≤ N) (hk : Mx E N F H G pl T) (hpl : ∀ d, d < E → ∃ v, v ≤ 6 ∧ pl d = nI v) (hw : wfL E (T.1 67)) (ha : a < E) (hb : b < E) (hab : a ≠ b) (hx : x < 4) (hy : y < 4) : ∃ T2, fX12_gameOf N T (nI a) (nI b) (nI x) (nI y) = some (T2, gmF G (T.1 67) pl E a b x y) ∧ Fr [61, 62] T T2 := by
  have hE := hk.1
  unfold fX12_gameOf
  simp (disch := omega) only [a0, ck_in, ga_nI, lt_s9]
  have hr : (pa (pa T 67 (nI a) (mn 20 (T.1 67 a + nI x))) 67 (nI b) (mn 20 (T.1 67 b + nI y))).1 67 = dyF (T.1 67) a b x y := by
    rw [row_pa, if_pos rfl, row_pa, if_pos rfl, nI_clamp (by omega), nI_clamp (by omega)]
    rfl
  have hf : Fr [67] T (pa (pa T 67 (nI a) (mn 20 (T.1 67 a + nI x))) 67 (nI b) (mn 20 (T.1 67 b + nI y))) := (Fr.pa (by decide)).tr (Fr.pa (by decide))
  obtain ⟨T2, z1, z2⟩ := m_game_l (T0 := T) hpl hw ha hb hx hy (T.1 67 a) (T.1 67 b) E 0 N _ (hk.f hf (by decide)) hr (by omega) (by omega)
  refine ⟨_, z1, ?_⟩
  have hr2 : T2.1 67 = dyF (T.1 67) a b x y := (z2.row (by decide)).trans hr
  constructor
  · intro k hk'
    by_cases h67 : k = 67
    · subst h67
      rw [row_pa, if_pos rfl, row_pa, if_pos rfl, nI_clamp (by omega), nI_clamp (by omega), hr2]
      apply upd_self
      intro j hj
      by_cases hja : j = a
      · subst hja
        rw [pk_us]
      · rw [pk_un hja]
        unfold dyF
        rw [pk_un hj, pk_un hja]
    · rw [row_pa, if_neg h67, row_pa, if_neg h67, z2.row hk', hf.row (by simp [h67])]
  · exact (z2.2).trans hf.2
theorem mv3 {N : Nat} (x : Int32) : (fX1_isMove N x = some 0 ∧ fX12_in N x 0 3 = some 0) ∨ ∃ j, j < 4 ∧ x = nI j ∧ fX1_isMove N x = some 1 ∧ fX12_in N x 0 3 = some 1 := by
  unfold fX1_isMove
  rcases ix3 x (n := 4) (by omega) with q | q | ⟨j, hj, rfl⟩
  · rw [if_pos q]
    exact Or.inl ⟨rfl, in_lo q⟩
  · rw [if_neg q.1, if_pos (show (4 : Int32) ≤ x from q.2)]
    exact Or.inl ⟨rfl, in_hi (b := 3) (n := 4) (by omega) (by omega) (by decide) q.2⟩
  · rw [if_neg (nI_pos (by omega)), if_neg (show ¬ (4 : Int32) ≤ nI j from nI_ge (b := 4) hj (by omega))]
    exact Or.inr ⟨j, hj, rfl, rfl, in_ok (b := 3) (n := 4) hj (by omega) (by decide)⟩
theorem pl6 {E : Nat} {S T : SS} (hp : 0 < E) (hm : rMill E S T) : ∀ d, d < E → ∃ v, v ≤ 6 ∧ S.1 5 d = nI v := fun d hd => by
  obtain ⟨v, _, h1, h2, _⟩ := ((hm.2.2.2 hp).2.2.2 d hd).2.1
  exact ⟨v, h1, h2⟩
theorem s_game {N : Nat} (hN : 9 ≤ N) {S T : SS} (h : Rel N S T) (a1 a2 a3 a4 a5 : Int32) : ∃ (r : Int32) (S' T' : SS), (fX11_game N S a1 a2 a3 a4 a5 = some (S', r)) ∧ (fX12_game N T a1 a2 a3 a4 a5 = some (T', r)) ∧ Rel N S' T' := by
  obtain ⟨E, ht, hm, hl, ha, hi, hs, hz⟩ := id h
  have hc := cx_of hm ha
  obtain ⟨hE, _, hv, hw⟩ := id hc
  unfold fX11_game fX12_game
  rcases two3 (N := N) hm a1 a2 with ⟨e1, e2⟩ | ⟨a, b, qa, qb, hn, rfl, rfl, e1, e2, e3, e4⟩
  · rw [bd_s e1]
    refine ⟨-1000000, S, T, ?_, rfl, h⟩
    rcases e2 with e2 | ⟨e2, e3 | ⟨e3, e4⟩⟩
    · rw [bd_s e2]
      rfl
    · rw [bd_s e2, bd_s e3]
      rfl
    · rw [bd_s e2, bd_s e3, if_pos e4]
      rfl
  rw [bd_s e1, bd_s e2, bd_s e3, if_neg n10, if_neg n10, if_neg n10, if_neg e4]
  have hT : ∀ {z : Int32}, fX12_in N z 0 1 = some 0 → (bd (fX12_in N a3 0 3) fun r5 => if r5 = 0 then some (T, (-1000000 : Int32)) else bd (fX12_in N a4 0 3) fun r8 => if r8 = 0 then some (T, -1000000) else bd (fX12_in N z 0 1) fun r11 => if r11 = 0 then some (T, -1000000) else if z = 0 then b2 (fX12_gameOf N T (nI a) (nI b) a3 a4) fun T19 r18 => some (T19, r18) else b2 (fX12_gameOf N T (nI b) (nI a) a4 a3) fun T16 r15 => some (T16, r15)) = some (T, -1000000) := fun {z} hz0 => by
    rw [bd_s hz0, if_pos rfl]
    rcases in_01 (N := N) (x := a3) (a := 0) (b := 3) with q | q <;> rcases in_01 (N := N) (x := a4) (a := 0) (b := 3) with q' | q' <;> rw [bd_s q] <;> (try rw [bd_s q']) <;> rfl
  rcases ix3 a5 (n := 2) (by omega) with q | q | ⟨w, hw2, rfl⟩
  · rw [if_pos q, hT (in_lo q)]
    exact ⟨_, S, T, rfl, rfl, h⟩
  · rw [if_neg q.1, if_neg (show ¬ a5 ≤ 1 from fun z => by
        have z1 := Int32.le_iff_toInt_le.mp z
        have z2 := Int32.le_iff_toInt_le.mp q.2
        have z3 : (nI 2).toInt = 2 := by decide
        have z4 : (1 : Int32).toInt = 1 := by decide
        omega), hT (in_hi (b := 1) (n := 2) (by omega) (by omega) (by decide) q.2)]
    exact ⟨_, S, T, rfl, rfl, h⟩
  rw [if_neg (nI_pos (by omega)), if_pos (show nI w ≤ 1 from nI_le (b := 1) (by omega) (by omega)), bd_s (in_ok (b := 1) (n := 2) hw2 (by omega) (by decide)), if_neg n10]
  rcases mv3 (N := N) a3 with ⟨f1, f2⟩ | ⟨x, hx, rfl, f1, f2⟩
  · rw [bd_s f1, bd_s f2]
    exact ⟨_, S, T, rfl, rfl, h⟩
  rcases mv3 (N := N) a4 with ⟨g1, g2⟩ | ⟨y, hy, rfl, g1, g2⟩
  · rw [bd_s f1, bd_s f2, bd_s g1, bd_s g2]
    exact ⟨_, S, T, rfl, rfl, h⟩
  rw [bd_s f1, bd_s f2, bd_s g1, bd_s g2, if_neg n10, if_neg n10, if_neg n10, if_neg n10]
  obtain ⟨F, H, G, hK, hM⟩ := km_of (show 0 < E by omega) hm hl
  have hpl := pl6 (show 0 < E by omega) hm
  rcases (by omega : w = 0 ∨ w = 1) with rfl | rfl
  · obtain ⟨S2, z1, z2⟩ := c_has hN hK hv hw qa qb hn hx hy
    obtain ⟨T2, y1, y2⟩ := m_game hN hM hpl hw qa qb hn hx hy
    rw [if_pos nI_0, if_pos nI_0, b2_s z1, b2_s y1]
    exact ⟨_, S2, T2, rfl, rfl, rel_fr h (z2.mono (by decide)) (y2.mono (by decide))⟩
  · obtain ⟨S2, z1, z2⟩ := c_has hN hK hv hw qb qa (Ne.symm hn) hy hx
    obtain ⟨T2, y1, y2⟩ := m_game hN hM hpl hw qb qa (Ne.symm hn) hy hx
    rw [if_neg (by decide), if_neg (by decide), b2_s z1, b2_s y1]
    exact ⟨_, S2, T2, rfl, rfl, rel_fr h (z2.mono (by decide)) (y2.mono (by decide))⟩
