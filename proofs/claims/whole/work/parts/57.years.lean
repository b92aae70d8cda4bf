/-! YEARS -/
theorem lus33 (x : Int64) : ∃ k, k < 2 ^ 31 ∧ lus x 33 = lN k := by
  refine ⟨(x.toUInt64 >>> (33 : UInt64)).toNat, ?_, ?_⟩
  · rw [UInt64.toNat_shiftRight, show (33 : UInt64).toNat % 64 = 33 from rfl, Nat.shiftRight_eq_div_pow]
    have := x.toUInt64.toNat_lt
    omega
  · show (x.toUInt64 >>> ((33 : Int32).toInt64.toUInt64 &&& Int64.toUInt64 63)).toInt64 = Int64.ofNat _
    rw [show ((33 : Int32).toInt64.toUInt64 &&& Int64.toUInt64 63) = (33 : UInt64) by decide]
    apply Int64.toBitVec_inj.1
    show (x.toUInt64 >>> (33 : UInt64)).toBitVec = BitVec.ofNat 64 (x.toUInt64 >>> (33 : UInt64)).toBitVec.toNat
    rw [BitVec.ofNat_toNat, BitVec.setWidth_eq]
def nxL (x : Int64) : Int64 := x * 6364136223846793005 + 1442695040888963407
theorem draw2 {N m : Nat} (hm : 0 < m) (hm2 : m < 2 ^ 31) (x : Int64) : ∃ j, j < m ∧ ∀ S : SS, gl S = x → fX10_draw N S (nI m) = some (pl S (nxL x), nI j) ∧ fX12_draw N S (nI m) = some (pl S (nxL x), nI j) := by
  obtain ⟨k, k1, k2⟩ := lus33 (nxL x)
  refine ⟨k % m, Nat.mod_lt _ hm, fun S hS => ?_⟩
  have hg : gl (pl S (nxL x)) = nxL x := rfl
  have h0 : ¬ (nI m).toInt64 = 0 := by
    rw [nI_l hm2]
    exact fun z => by
      have := (lN_eq (b := 0) hm2 (by omega)).mp z
      omega
  have hr : (lrm (lus (nxL x) 33) ((nI m).toInt64) : Int64).toInt32 = nI (k % m) := by
    rw [k2, nI_l hm2]
    show (lN k - lN k / lN m * lN m).toInt32 = _
    rw [pk_lRem (by omega) hm (by omega), lN_i]
  have e : pl S (gl S * 6364136223846793005 + 1442695040888963407) = pl S (nxL x) := by
    rw [hS]
    rfl
  unfold fX10_draw fX12_draw
  rw [e, lt_s9, lt_s9, hg, hr, if_neg (nI_nle hm hm2), ck_t (by simp [h0])]
  exact ⟨rfl, rfl⟩
theorem rel_pl {N E : Nat} {S T : SS} (h : RelE N E S T) (x y : Int64) : RelE N E (pl S x) (pl T y) := rel_now h (fun _ _ => rfl) rfl rfl rfl (fun _ _ _ _ _ _ => rfl) (fun _ _ => rfl) (rAct_c sm_pl sm_pl h.2.2.2.1)
theorem i_nle {a b : Int32} (h : a < b) : ¬ b ≤ a := fun z => by
  rw [Int32.lt_iff_toInt_lt] at h
  rw [Int32.le_iff_toInt_le] at z
  omega
theorem i_le {a b : Int32} (h : ¬ a < b) : b ≤ a := by
  rw [Int32.lt_iff_toInt_lt] at h
  rw [Int32.le_iff_toInt_le]
  omega
/-- the tries of a day, and who wakes -/
theorem drd_l {N E : Nat} {w : Int32} (hN : 10000 ≤ N) (hp : 0 < E) : ∀ (j i n : Nat) (S T : SS), RelE N E S T → JK T → gl S = gl T → gi T 52 26 = w → i + j = 3 → j < n → ∃ S' T', fX10_drawDay_l2 N 18 n w (nI i) S = fX10_drawDay_j100 N 18 S' ∧ fX12_drawDay_l2 N n (nI i) T = some T' ∧ RelE N E S' T' ∧ JK T' ∧ gl S' = gl T' ∧ T'.1 67 32 = T.1 67 32 := by
  intro j
  induction j with
  | zero =>
    intro i n S T h hj hg hww hi hn
    obtain ⟨n, rfl⟩ : ∃ q, n = q + 1 := ⟨n - 1, by omega⟩
    have : i = 3 := by omega
    subst this
    unfold fX10_drawDay_l2 fX12_drawDay_l2
    rw [if_pos (by decide), if_pos (by decide)]
    obtain ⟨r, r1, r2⟩ := draw2 (N := N) (m := 10) (by omega) (by omega) (gl T)
    have u1 : fX10_draw N S 10 = _ := (r2 S hg).1
    have u2 : fX12_draw N T 10 = _ := (r2 T rfl).2
    rw [b2_s u1, b2_s u2]
    have hR1 := rel_pl h (nxL (gl T)) (nxL (gl T))
    have e26 : gi (pl T (nxL (gl T))) 52 26 = w := gi_pl.trans hww
    rw [e26]
    by_cases c : w ≤ nI r
    · rw [if_pos c, if_pos c]
      exact ⟨_, _, rfl, rfl, hR1, JK_c hj rfl rfl rfl, rfl, rfl⟩
    rw [if_neg c, if_neg c]
    obtain ⟨hE, hm, hv, hw⟩ := relE_cx hR1
    rw [hm.1.1, hm.1.2.1]
    obtain ⟨d, d1, d2⟩ := draw2 (N := N) (m := E) hp (by omega) (nxL (gl T))
    rw [b2_s (d2 (pl S (nxL (gl T))) rfl).1, b2_s (d2 (pl T (nxL (gl T))) rfl).2]
    have hR2 := rel_pl hR1 (nxL (nxL (gl T))) (nxL (nxL (gl T)))
    obtain ⟨_, hm2, hv2, hw2⟩ := relE_cx hR2
    unfold fX10_pullRefusal
    rw [bd_s (has_ok hm2.1.1 d1 hE), if_neg n10, bd_s (c_sold hE hv2 hw2 d1), bd_s (m_sold hE hw2 d1), bd_s (c_knot hE hv2 d1), bd_s (m_knot hE d1)]
    cases hs : sdF ((pl (pl T (nxL (gl T))) (nxL (nxL (gl T)))).1 67) d
    · rw [ifi0, ifi0]
      cases hk : knF ((pl (pl T (nxL (gl T))) (nxL (nxL (gl T)))).1 67) d
      · rw [ifi0, ifi0, bd_s rfl, if_neg (by decide)]
        exact ⟨_, _, rfl, rfl, hR2, JK_c hj rfl rfl rfl, rfl, rfl⟩
      · rw [ifi1, ifi1, bd_s rfl, if_pos rfl]
        obtain ⟨S2, z1, z2, z3⟩ := c_cut (N := N) hE hv2 hw2 d1
        obtain ⟨T2, y1, y2, y3⟩ := m_cut (N := N) hE hw2 d1
        rw [b2_s z1, b2_s y1]
        have e32 : T2.1 67 32 = T.1 67 32 := by
          rw [y3]
          exact cut_32 hE hw2 d1 32 (by omega)
        refine ⟨S2, T2, rfl, rfl, rel_act hR2 (z2.mono (by decide)) (y2.mono (by decide)) (by rw [y3]; exact z3) (by rw [y3]; exact wf_cutF hE hw2 d1) (fun j hj => by rw [y3]; exact cut_32 hE hw2 d1 j (by omega)), JK_c hj (congrFun (y2.row (k := 52) (by decide)) 28) (y2.row (k := 69) (by decide)) e32, ?_, e32⟩
        unfold gl
        rw [z2.2, y2.2]
        rfl
    · rw [ifi1, ifi1, bd_s rfl, if_neg (by decide)]
      exact ⟨_, _, rfl, rfl, hR2, JK_c hj rfl rfl rfl, rfl, rfl⟩
  | succ j ih =>
    intro i n S T h hj hg hww hi hn
    obtain ⟨n, rfl⟩ : ∃ q, n = q + 1 := ⟨n - 1, by omega⟩
    have h3 : ¬ (3 : Int32) ≤ nI i := nI_ge (b := 3) (by omega) (by omega)
    unfold fX10_drawDay_l2 fX12_drawDay_l2
    rw [if_neg h3, if_neg h3]
    obtain ⟨hE, hm0, _, _⟩ := relE_cx h
    rw [hm0.1.1, hm0.1.2.1]
    obtain ⟨a, a1, a2⟩ := draw2 (N := N) (m := E) hp (by omega) (gl T)
    rw [b2_s (a2 S hg).1, b2_s (a2 T rfl).2]
    have hR1 := rel_pl h (nxL (gl T)) (nxL (gl T))
    obtain ⟨_, hm1, _, _⟩ := relE_cx hR1
    rw [hm1.1.1, hm1.1.2.1]
    obtain ⟨b, b1, b2'⟩ := draw2 (N := N) (m := E) hp (by omega) (nxL (gl T))
    rw [b2_s (b2' (pl S (nxL (gl T))) rfl).1, b2_s (b2' (pl T (nxL (gl T))) rfl).2]
    have hR2 := rel_pl hR1 (nxL (nxL (gl T))) (nxL (nxL (gl T)))
    have hj2 : JK (pl (pl T (nxL (gl T))) (nxL (nxL (gl T)))) := JK_c hj rfl rfl rfl
    have hw2' : gi (pl (pl T (nxL (gl T))) (nxL (nxL (gl T)))) 52 26 = w := gi_pl.trans (gi_pl.trans hww)
    have h32 : (pl (pl T (nxL (gl T))) (nxL (nxL (gl T)))).1 67 32 = T.1 67 32 := rfl
    have hgl : gl (pl (pl S (nxL (gl T))) (nxL (nxL (gl T)))) = gl (pl (pl T (nxL (gl T))) (nxL (nxL (gl T)))) := rfl
    revert hR2 hj2 hw2' h32 hgl
    generalize pl (pl S (nxL (gl T))) (nxL (nxL (gl T))) = S2
    generalize pl (pl T (nxL (gl T))) (nxL (nxL (gl T))) = T2
    intro hR2 hj2 hw2' h32 hgl
    obtain ⟨_, hm, hv, hw⟩ := relE_cx hR2
    have skip : ∃ S' T', fX10_drawDay_l2 N 18 n w (nI (i + 1)) S2 = fX10_drawDay_j100 N 18 S' ∧ fX12_drawDay_l2 N n (nI (i + 1)) T2 = some T' ∧ RelE N E S' T' ∧ JK T' ∧ gl S' = gl T' ∧ T'.1 67 32 = T.1 67 32 := by
      obtain ⟨S', T', s1, s2, s3, s4, s5, s6⟩ := ih (i + 1) n S2 T2 hR2 hj2 hgl hw2' (by omega) (by omega)
      exact ⟨S', T', s1, s2, s3, s4, s5, s6.trans h32⟩
    unfold fX10_tryRefusal
    rw [bd_s (has_ok hm.1.1 a1 hE), if_neg n10, bd_s (has_ok hm.1.1 b1 hE), if_neg n10, bd_s (m_open (by omega) hE hw a1 b1)]
    by_cases hab : a = b
    · have ho : opF (T2.1 67) a b = false := by
        unfold opF
        simp [hab]
      rw [if_pos (by rw [hab]), bd_s rfl, if_neg (by decide), lt_s9, nI_1, ho, ifi0, lt_s9]
      exact skip
    rw [if_neg (fun z => hab ((nI_eq (by omega) (by omega)).mp z)), bd_s (c_open (by omega) hE hv hw a1 b1)]
    cases ho : opF (T2.1 67) a b
    · rw [ifi0, ifi0, bd_s rfl, if_neg (by decide), lt_s9, lt_s9, nI_1]
      exact skip
    rw [ifi1, ifi1]
    obtain ⟨_, _, ⟨Hg, _, _, g1, g2⟩, _⟩ := hm.2.2.2 hp
    rw [hv.2.2.2.1, g1, show ga T2 67 29 = T2.1 67 29 from rfl, show ga T2 65 2 = nI Hg from g2]
    by_cases hlt : T2.1 67 29 < nI Hg
    · rw [if_pos hlt, if_neg (i_nle hlt), bd_s rfl, if_pos rfl]
      obtain ⟨F, H, G, hK, hM⟩ := km_of hp hm hR2.2.2.1
      obtain ⟨S3, z1, z2, z3⟩ := c_try (by omega) (by omega) (by omega) hK hv hw a1 b1 ho
      obtain ⟨T3, y1, y2, y3⟩ := m_try (by omega) hM hw a1 b1 ho
      rw [b2_s z1, b2_s y1, lt_s9, lt_s9, nI_1]
      have e32 : T3.1 67 32 = T2.1 67 32 := by
        rw [y3]
        exact try_hi (by omega) (by omega) 32 (by omega)
      obtain ⟨S', T', s1, s2, s3, s4, s5, s6⟩ := ih (i + 1) n S3 T3 (rel_act hR2 z2 y2 (by rw [y3]; exact z3) (by rw [y3]; exact (wf_try hE hw a1 b1 ho).1) (fun j hj => by rw [y3]; exact try_hi (by omega) (by omega) j (by omega))) (JK_c hj2 (congrFun (y2.row (k := 52) (by decide)) 28) (y2.row (k := 69) (by decide)) e32) (by
        unfold gl at hgl ⊢
        rw [z2.2, y2.2, hgl]) ((y2.gi (by decide)).trans hw2') (by omega) (by omega)
      exact ⟨S', T', s1, s2, s3, s4, s5, s6.trans (e32.trans h32)⟩
    · rw [if_neg hlt, if_pos (i_le hlt), bd_s rfl, if_neg (by decide), lt_s9, lt_s9, nI_1]
      exact skip
theorem years_l {N E n1 : Nat} (hN : 10000 ≤ N) (hp : 0 < E) (hn1 : n1 ≤ 60) : ∀ (j i n : Nat) (S T : SS), RelE N E S T → gl S = gl T → i + j = n1 → dayN (T.1 67) + j ≤ 999 → j < n → ∃ r S' T', fX11_years_l49 N n (nI n1) (nI i) S = some (S', r) ∧ fX12_years_l25 N n (nI n1) (nI i) T = some (T', r) ∧ RelE N E S' T' := by
  intro j
  induction j with
  | zero =>
    intro i n S T h _ hi _ hn
    obtain ⟨n, rfl⟩ : ∃ q, n = q + 1 := ⟨n - 1, by omega⟩
    have hle : nI n1 ≤ nI i := nI_le (by omega) (by omega)
    unfold fX11_years_l49 fX12_years_l25
    rw [if_pos hle, if_pos hle]
    have e : gi S 18 9 = ga T 67 32 := (relE_cx h).2.2.1.2.2.2.2.2.2
    rw [e]
    exact ⟨_, S, T, rfl, rfl, h⟩
  | succ j ih =>
    intro i n S T h hg hi hd hn
    obtain ⟨n, rfl⟩ : ∃ q, n = q + 1 := ⟨n - 1, by omega⟩
    have hle : ¬ nI n1 ≤ nI i := nI_ge (by omega) (by omega)
    unfold fX11_years_l49 fX12_years_l25
    rw [if_neg hle, if_neg hle]
    obtain ⟨S1, T1, k1, k2, k3, k4, k5, k6⟩ := keeps hN h
    have e67 : T1.1 67 = T.1 67 := k6.1 67 (by decide) (by decide)
    have g1 : gl S1 = gl T1 := by
      unfold gl at hg ⊢
      rw [k5.2.2, k6.2.2, hg]
    have ew : gi S1 0 12 = gi T1 52 26 := k3.2.2.2.2.2.2.2
    obtain ⟨S2, T2, s1, s2, s3, s4, s5, s6⟩ := drd_l (w := gi T1 52 26) hN hp 3 0 N S1 T1 k3 k4 g1 rfl (by omega) (by omega)
    have ed : dayN (T2.1 67) = dayN (T.1 67) := day_c (s6.trans (congrFun e67 32))
    obtain ⟨S3, T3, p1, p2, p3, p4, p5, p6⟩ := passes hN s3 s4 (by rw [ed]; omega)
    have u1 : fX10_drawDay N S1 18 (gi S1 0 12) = some S3 := by
      unfold fX10_drawDay
      rw [ew]
      refine s1.trans ?_
      unfold fX10_drawDay_j100
      rw [bd_s p1]
    have u2 : fX12_drawDay N T1 = some T2 := s2
    rw [bd_s k1, bd_s k2, bd_s u1, bd_s u2, bd_s p2, lt_s9, lt_s9, nI_1]
    exact ih (i + 1) n S3 T3 p3 (by
      unfold gl at s5 ⊢
      rw [p5, p6, s5]) (by omega) (by rw [p4, ed]; omega) (by omega)
theorem s_years {N : Nat} (hN : 10000 ≤ N) {S T : SS} (h : Rel N S T) (a1 : Int32) (a2 : Int64) : ∃ (r : Int32) (S' T' : SS), (fX11_years N S a1 a2 = some (S', r)) ∧ (fX12_years N T a1 a2 = some (T', r)) ∧ Rel N S' T' := by
  obtain ⟨E, hR⟩ := relE_of h
  obtain ⟨hE, _, hv, hw⟩ := relE_cx hR
  have hm := hR.2.1
  unfold fX11_years fX12_years fX12_areDays
  rcases there2 (N := N) hm with ⟨_, e1, e2⟩ | ⟨hp, e1, e2⟩
  · rw [bd_s e1, if_pos rfl, if_pos e2]
    exact ⟨-1, S, T, rfl, rfl, h⟩
  rw [bd_s e1, if_neg n10, if_neg e2]
  obtain ⟨d1, d2⟩ := day_eq hw
  have e9 : gi S 18 9 = nI (dayN (T.1 67)) := hv.2.2.2.2.2.2.trans d1
  have e32 : ga T 67 32 = nI (dayN (T.1 67)) := d1
  rcases in60 (N := N) a1 with ⟨q1, q2⟩ | ⟨q1, q2, q3, q4⟩ | ⟨n, n1, n2, rfl, q1, q2, q3, q4⟩
  · rw [if_pos q1, bd_s q2, if_pos rfl, bd_s rfl, if_pos rfl]
    exact ⟨-1, S, T, rfl, rfl, h⟩
  · rw [if_neg q1, if_pos q3, bd_s q4, if_pos rfl, bd_s rfl, if_pos rfl]
    exact ⟨-1, S, T, rfl, rfl, h⟩
  rw [if_neg q2, if_neg q4, bd_s q1, if_neg n10, e9, e32, nI_add]
  by_cases hc : dayN (T.1 67) + n ≤ 999
  · rw [if_pos (show nI (dayN (T.1 67) + n) ≤ 999 from nI_le (b := 999) hc (by omega)), if_neg (show ¬ (999 : Int32) < nI (dayN (T.1 67) + n) from nI_nlt (a := 999) hc (by omega)), bd_s rfl, if_neg n10, lt_s9, lt_s9]
    obtain ⟨r, S', T', r1, r2, r3⟩ := years_l hN hp n2 n 0 N (pl S a2) (pl T a2) (rel_pl hR a2 a2) rfl (by omega) hc (by omega)
    exact ⟨r, S', T', r1, r2, E, r3⟩
  · rw [if_neg (show ¬ nI (dayN (T.1 67) + n) ≤ 999 from nI_ge (a := 999) (by omega) (by omega)), if_pos (show (999 : Int32) < nI (dayN (T.1 67) + n) from nI_lt (a := 999) (by omega) (by omega)), bd_s rfl, if_pos rfl]
    exact ⟨-1, S, T, rfl, rfl, h⟩
