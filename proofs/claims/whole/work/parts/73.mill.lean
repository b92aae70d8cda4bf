/-! a mill read by both -/
theorem m_us {N d : Nat} (kd : Bool) (hd : d < 7) : ∀ (j i f : Nat) (T : SS), i + j = cn kd → j < f → (∀ k, k < i → T.1 (qR kd) (xR kd d + k) = nI (usK kd k)) → ∃ T2, fX12_items_l3 N (qR kd) f (clI kd) (nI (xR kd d)) (nI (cn kd)) (nI i) T = (b2 (fX12_look N T2) fun T4 r3 => bd (fX12_itemOf N (clI kd) r3) fun r6 => fX12_items_l41 N (qR kd) N (clI kd) (nI (xR kd d)) 0 r6 T4) ∧ FP (fun k j => k = qR kd ∧ ∃ i, i < cn kd ∧ j = xR kd d + i) T T2 ∧ ∀ k, k < cn kd → T2.1 (qR kd) (xR kd d + k) = nI (usK kd k) := by
  have hc : cn kd ≤ 4 := by cases kd <;> decide
  intro j
  induction j with
  | zero =>
    intro i f T hi hf h
    obtain ⟨f, rfl⟩ : ∃ q, f = q + 1 := ⟨f - 1, by omega⟩
    unfold fX12_items_l3
    rw [if_pos (nI_le (by omega) (by omega))]
    exact ⟨T, rfl, FP.rf, fun k hk => h k (by omega)⟩
  | succ j ih =>
    intro i f T hi hf h
    obtain ⟨f, rfl⟩ : ∃ q, f = q + 1 := ⟨f - 1, by omega⟩
    have hi' : i < cn kd := by omega
    have e1 : fX12_usual N (clI kd) (nI i) = some (nI (usK kd i)) := (k_bnd kd i hi').2.2.2.2.2.2.2.2
    have hx := xR_at (kd := kd) (d := d) hd hi'
    unfold fX12_items_l3
    rw [if_neg (nI_ge hi' (by omega)), bd_s e1, nI_add, ck_in hx.1 (by omega), lt_s9, lt_s9, nI_1]
    have ew : pa T (qR kd) (nI (xR kd d + i)) (nI (usK kd i)) = pj T (qR kd) (xR kd d + i) (nI (usK kd i)) := by
      show pj T (qR kd) (nI (xR kd d + i)).toNatClampNeg _ = _
      rw [nI_clamp (by omega)]
    rw [ew]
    obtain ⟨T2, z1, z2, z3⟩ := ih (i + 1) f (pj T (qR kd) (xR kd d + i) (nI (usK kd i))) (by omega) (by omega) (fun k hk => by
      show gi (pj T (qR kd) (xR kd d + i) (nI (usK kd i))) _ _ = _
      rw [gi_pj, if_pos rfl]
      by_cases q : k = i
      · rw [q, if_pos rfl]
      · rw [if_neg (by omega)]
        exact h k (by omega))
    exact ⟨T2, z1, (FP.pj ⟨rfl, i, hi', rfl⟩).tr z2, z3⟩
theorem cls {n N d a : Nat} {tp : Nat → Nat} (hN : 250 ≤ N) (hb : tpB n tp) (kd : Bool) (hd : d < 7) {S T : SS} (he : kd = false → gi S 8 0 = nI (d + 1)) (h : Bt n tp a S T) (hu : ∀ k, k < cn kd → S.1 (slC kd d k).1 (slC kd d k).2 = nI (usK kd k)) :
    ∃ S2 T2 r, fX6_readItems N S (clI kd) = some (S2, r) ∧ fX12_items N T (clI kd) (qR kd) (nI (xR kd d)) (nI (cn kd)) = some T2 ∧ FP (itC kd d) S S2 ∧ FP (itM kd d) T T2 ∧
      ((r = 1 ∧ ∃ a', a ≤ a' ∧ Bt n tp a' S2 T2 ∧ sk n tp a' = a' ∧ dD kd d S2 T2) ∨ (r = 0 ∧ ∃ a' v, Bt n tp a' S2 T2 ∧ sk n tp a' = a' ∧ ch n tp a' = nI v ∧ v < 256 ∧ 60 < v) ∨ (r = 0 ∧ ∃ w, w ≤ n ∧ gi S2 1 2 = nI w ∧ gi T2 52 4 = nI w)) := by
  have hc : cn kd ≤ 4 := by cases kd <;> decide
  obtain ⟨T1, z1, z2, z3⟩ := m_us (N := N) kd hd (cn kd) 0 N T (by omega) (by omega) (fun k hk => absurd hk (by omega))
  have hq := qR_at kd
  have b1 : Bt n tp a S T1 := h.f (FP.rf (P := fun _ _ => False)) z2 (fun q => q) (fun _ q => q) (fun q => q) (by omega) (by intro j; omega) (by omega) (by omega)
  obtain ⟨h1, h2, h3, h4, h5, h6⟩ := b1
  obtain ⟨T3, y1, y2, y3⟩ := m_look hN hb h2 h4 h6
  have hxx : ∃ x, fX12_itemOf N (clI kd) (ch n tp (sk n tp a)) = some x := by
    rcases itm (N := N) kd (ch n tp (sk n tp a)) with ⟨_, j2⟩ | ⟨_, _, _, _, _, _, _, j2⟩
    · exact ⟨_, j2⟩
    · exact ⟨_, j2⟩
  obtain ⟨x, hx2⟩ := hxx
  have nM : ∀ k, k < cn kd → ¬ atM (qR kd) (xR kd d + k) := fun k hk q => by
    have q1 : qR kd = 52 := q.1
    omega
  have g3 : FP (itM kd d) T T3 := (z2.mono (fun k j q => Or.inr q)).tr (y2.mono (fun k j q => Or.inl ⟨q.1, Or.inl q.2⟩))
  have h2p : 0 < 2 ^ cn kd := Nat.two_pow_pos _
  obtain ⟨S5, T5, r5, o1, o2, o3, o4, o5⟩ := itms hN hb kd hd (S0 := S) (T0 := T) he N 0 a S T3 x h2p (by omega) h1 h3 h6 (h2.f y2 (by simp [atM]) (by simp [atM])) y3 ((y2.gi (by simp [atM])).trans h5) hx2 FP.rf g3 (fun k hk => by
    have hkb := k_bnd kd k hk
    refine ⟨usK kd k, hkb.2.2.2.2.1, hkb.2.2.2.2.2.1, hu k hk, ?_⟩
    rw [y2.1 _ _ (nM k hk)]
    exact z3 k hk)
  refine ⟨S5, T5, r5, ?_, ?_, o3, o4, o5⟩
  · have e : hdd kd 0 = 0 := by cases kd <;> rfl
    rw [e] at o1
    exact o1
  · unfold fX12_items
    have z1' : fX12_items_l3 N (qR kd) N (clI kd) (nI (xR kd d)) (nI (cn kd)) 0 T = _ := z1
    rw [z1', b2_s y1, bd_s hx2]
    exact o2
def mlC (k j : Nat) : Prop := (k = 1 ∧ j = 2) ∨ (8 ≤ k ∧ k ≤ 11)
def mlM (k j : Nat) : Prop := (k = 52 ∧ (j = 3 ∨ j = 4 ∨ j = 19)) ∨ k = 63 ∨ k = 64
def mlE (S T : SS) : Prop := ∃ e, 2 ≤ e ∧ e ≤ 7 ∧ gi S 8 0 = nI e ∧ gi T 52 19 = nI e ∧ dD true 0 S T ∧ ∀ d, d < e → dD false d S T
theorem j199_bad {N w : Nat} {T : SS} (hw : w < 2 ^ 31) (h : gi T 52 4 = nI w) : fX12_readMill_j199 N T = some (T, nI w) := by
  unfold fX12_readMill_j199
  rw [h, if_neg (nI_m1 hw)]
theorem j155_bad {N f w : Nat} {x1 : Int32} {T : SS} (hw : w < 2 ^ 31) (h : gi T 52 4 = nI w) : fX12_readMill_j155 N (fX12_readMill_l44 N (f + 1)) x1 T = some (pj T 52 3 (gi T 52 3 + 0), nI w) := by
  unfold fX12_readMill_j155 fX12_readMill_j176 fX12_readMill_j177
  rw [h, if_neg (nI_m1 hw), if_pos rfl, lt_s9]
  unfold fX12_readMill_l44
  rw [if_pos rfl]
  exact j199_bad hw (by rw [gi_ne (by omega)]; exact h)
theorem ad0 (x : Int32) : x + 0 = x := by simp
/-- nothing more is read, at a sign that is not one to go on with -/
theorem j155_end {n N f a : Nat} {tp : Nat → Nat} {x1 : Int32} {S T : SS} (hN : 250 ≤ N) (hb : tpB n tp) (h : Bt n tp a S T) (hs : sk n tp a = a) (h59 : ¬ ch n tp a = 59) : ∃ T2, FP wrM T T2 ∧ fX12_readMill_j155 N (fX12_readMill_l44 N (f + 1)) x1 T = some (T2, if ch n tp a = -1 ∧ 2 ≤ gi T 52 19 then -1 else nI a) := by
  have hn2 := hb.1
  have am : ∀ k j, atM k j → wrM k j := fun k j h => ⟨h.1, Or.inl h.2⟩
  obtain ⟨h1, h2, h3, h4, h5, h6⟩ := h
  obtain ⟨T1, y1, y2, y3⟩ := m_look hN hb h2 h4 h6
  rw [hs] at y1 y3
  have u5 : gi T1 52 4 = -1 := (y2.gi (by simp [atM])).trans h5
  have u2 : tpM n tp T1 := h2.f y2 (by simp [atM]) (by simp [atM])
  unfold fX12_readMill_j155 fX12_readMill_j176 fX12_readMill_j177
  rw [if_pos h5, b2_s y1, if_neg h59, if_pos rfl, lt_s9, y3, ad0]
  obtain ⟨p1, p2, p3⟩ := pjM (a := a) u2
  unfold fX12_readMill_l44
  rw [if_pos rfl]
  obtain ⟨T3, x1', x2', x3'⟩ := m_look hN hb p1 p2 h6
  rw [hs] at x1' x3'
  have v5 : gi (pj T1 52 3 (nI a)) 52 4 = -1 := (p3.gi (by simp [atM])).trans u5
  have w5 : gi T3 52 4 = -1 := (x2'.gi (by simp [atM])).trans v5
  have w19 : gi T3 52 19 = gi T 52 19 := (((y2.tr p3).tr x2').gi (by simp [atM]))
  have fT : FP wrM T T3 := ((y2.tr p3).tr x2').mono am
  unfold fX12_readMill_j199 fX12_readMill_j223
  rw [if_pos v5, b2_s x1', w19]
  have bad : (bd (fX12_bad N T3) fun T2 => some (T2, gi T2 52 4)) = some (pj T3 52 4 (nI a), nI a) := by
    rw [bd_s (m_bad1 w5), x3']
    have : gi (pj T3 52 4 (nI a)) 52 4 = nI a := by
      rw [gi_pj]
      rfl
    rw [this]
  rw [bad]
  have fb : FP wrM T (pj T3 52 4 (nI a)) := fT.tr (FP.pj ⟨rfl, Or.inr rfl⟩)
  by_cases c1 : ch n tp a = -1
  · rw [if_pos c1]
    by_cases c2 : (2 : Int32) ≤ gi T 52 19
    · rw [if_pos c2, if_pos ⟨c1, c2⟩]
      exact ⟨T3, fT, by rw [w5]⟩
    · rw [if_neg c2, if_neg (fun z => c2 z.2)]
      exact ⟨_, fb, rfl⟩
  · rw [if_neg c1, if_neg (fun z => c1 z.1)]
    exact ⟨_, fb, rfl⟩
/-- behind the items of a clause -/
theorem tail {n N f c e : Nat} {tp : Nat → Nat} {ru : Bool} {S T : SS} {r : Int32} {kcC : Int32 → Int32 → SS → Option (SS × Int32)} {Q : SS → SS → Int32 → Prop} (hN : 250 ≤ N) (hb : tpB n tp) (hE : e ≤ 7) (h80 : gi S 8 0 = nI e) (h19 : gi T 52 19 = nI e)
    (ho : (r = 1 ∧ ∃ a', Bt n tp a' S T ∧ sk n tp a' = a' ∧ (2 ≤ e → ∀ S' T', FP atC S S' → FP wrM T T' → Q S' T' (-1)) ∧ (a' < n → ∀ S' T', FP atC S S' → FP atM T T' → Bt n tp (a' + 1) S' T' → ∃ r' S2 T2, kcC (i01 ru) (nI (c + 1)) S' = some (S2, r') ∧ fX12_readMill_l44 N (f + 1) (i01 ru) 1 T' = some (T2, r') ∧ Q S2 T2 r')) ∨ (r = 0 ∧ ∃ a' v, Bt n tp a' S T ∧ sk n tp a' = a' ∧ ch n tp a' = nI v ∧ v < 256 ∧ 60 < v) ∨ (r = 0 ∧ ∃ w, w ≤ n ∧ gi S 1 2 = nI w ∧ gi T 52 4 = nI w))
    (hQ : ∀ S' T' w, FP atC S S' → FP wrM T T' → w ≤ n → Q S' T' (nI w)) :
    ∃ r' S2 T2, (if r = 0 then some (S, gi S 1 2) else (b2 (fX9_sign N S) fun S8 r7 => if r7 = (-1) then (if 2 ≤ (gi S8 8 0) then (some (S8, (-1))) else (some (S8, gi S8 1 2))) else (b2 (fX9_take N S8 59) fun S12 r11 => if r11 = 0 then (some (S12, gi S12 1 2)) else (lt (nI c + 1) fun v14 => kcC (i01 ru) v14 S12)))) = some (S2, r') ∧ fX12_readMill_j155 N (fX12_readMill_l44 N (f + 1)) (i01 ru) T = some (T2, r') ∧ Q S2 T2 r' := by
  have hn2 := hb.1
  have am : ∀ k j, atM k j → wrM k j := fun k j h => ⟨h.1, Or.inl h.2⟩
  rcases ho with ⟨rfl, a', b, hs, q1, q2⟩ | ⟨rfl, a', v, b, hs, hc, hv, hv2⟩ | ⟨rfl, w, hw, w1, w2⟩
  · rw [if_neg n10]
    obtain ⟨h1, h2, h3, h4, h5, h6⟩ := id b
    obtain ⟨S8, s1, s2, s3⟩ := c_sgn hN hb h1 h3 h6
    rw [hs] at s1 s3
    have c8 : tpC n tp S8 := h1.f s2 (by simp [atC]) (by simp [atC])
    have e80 : gi S8 8 0 = nI e := (s2.gi (by simp [atC])).trans h80
    rw [b2_s s1]
    by_cases c1 : ch n tp a' = -1
    · rw [if_pos c1, e80, s3]
      obtain ⟨T2, z1, z2⟩ := j155_end (x1 := i01 ru) (f := f) hN hb b hs (by rw [c1]; decide)
      rw [z2, h19]
      by_cases c2 : 2 ≤ e
      · have c3 : (2 : Int32) ≤ nI e := nI_le (a := 2) c2 (by omega)
        rw [if_pos c3, if_pos ⟨c1, c3⟩]
        exact ⟨-1, S8, T2, rfl, rfl, q1 c2 S8 T2 s2 z1⟩
      · have c3 : ¬ (2 : Int32) ≤ nI e := nI_ge (b := 2) (by omega) (by omega)
        rw [if_neg c3, if_neg (fun z => c3 z.2)]
        exact ⟨nI a', S8, T2, rfl, rfl, hQ S8 T2 a' s2 z1 h6⟩
    · rw [if_neg c1]
      rcases c_take hN hb c8 s3 h6 59 (w := 59) rfl (by omega) with ⟨t1, t2, S9, t3, t4, t5⟩ | ⟨t1, S9, t3, t4, t5⟩
      · rw [hs] at t1 t2 t5
        rw [b2_s t3, if_neg n10, lt_s9, nI_1]
        obtain ⟨T1, y1, y2, y3⟩ := m_look hN hb h2 h4 h6
        rw [hs] at y1 y3
        have u2 : tpM n tp T1 := h2.f y2 (by simp [atM]) (by simp [atM])
        unfold fX12_readMill_j155 fX12_readMill_j177
        rw [if_pos h5, b2_s y1, if_pos t1, if_neg n10, lt_s9, y3, nI_1]
        obtain ⟨p1, p2, p3⟩ := pjM (a := a' + 1) u2
        exact q2 t2 S9 _ (s2.tr t4) (y2.tr p3) ⟨c8.f t4 (by simp [atC]) (by simp [atC]), p1, t5, p2, ((y2.tr p3).gi (by simp [atM])).trans h5, t2⟩
      · rw [hs] at t1 t5
        rw [b2_s t3, if_pos rfl, t5]
        obtain ⟨T2, z1, z2⟩ := j155_end (x1 := i01 ru) (f := f) hN hb b hs t1
        rw [z2, if_neg (fun z => c1 z.1)]
        exact ⟨nI a', S9, T2, rfl, rfl, hQ S9 T2 a' (s2.tr t4) z1 h6⟩
  · rw [if_pos rfl]
    obtain ⟨T2, z1, z2⟩ := j155_end (x1 := i01 ru) (f := f) hN hb b hs (by
      rw [hc]
      intro z
      have := (nI_eq (b := 59) (by omega) (by omega)).mp z
      omega)
    rw [z2, if_neg (fun z => by
      have z1 := z.1
      rw [hc] at z1
      exact nI_m1 (by omega) z1), b.2.2.1]
    exact ⟨nI a', S, T2, rfl, rfl, hQ S T2 a' FP.rf z1 b.2.2.2.2.2⟩
  · rw [if_pos rfl, j155_bad (by omega) w2, w1]
    exact ⟨nI w, S, _, rfl, rfl, hQ S _ w FP.rf (FP.pj ⟨rfl, Or.inl rfl⟩) hw⟩
