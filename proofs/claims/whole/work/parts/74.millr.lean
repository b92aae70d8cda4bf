/-! a mill read by both: all clauses -/
theorem dD_it {kd kd' : Bool} {d d' : Nat} {S T S' T' : SS} (h : dD kd' d' S T) (hS : FP (itC kd d) S S') (hT : FP (itM kd d) T T') (hne : kd ≠ kd' ∨ (kd = false ∧ d ≠ d')) : dD kd' d' S' T' := by
  refine h.f hS hT (fun k hk q => ?_) (fun k hk q => ?_)
  · have q1 := itC_8 q
    cases kd'
    · have e1 : (slC false d' k).1 = 9 + k := rfl
      have e2 : (slC false d' k).2 = d' := rfl
      have hk' : k < 3 := hk
      rw [e1, e2] at q1
      rcases q1 with q1 | ⟨q1, q2⟩ | ⟨q1, q2⟩
      · omega
      · omega
      · rcases hne with hne | hne
        · exact hne q1
        · omega
    · have e1 : (slC true d' k).1 = 8 := rfl
      have e2 : (slC true d' k).2 = k + 1 := rfl
      rw [e1, e2] at q1
      rcases q1 with q1 | ⟨q1, q2⟩ | ⟨q1, q2⟩
      · omega
      · rcases hne with hne | hne
        · exact hne q1
        · rw [q1] at hne
          exact Bool.noConfusion hne.1
      · omega
  · have q1 := itM_8 q
    cases kd'
    · have e1 : qR false = 64 := rfl
      have e2 : xR false d' = 3 * d' := rfl
      have hk' : k < 3 := hk
      rw [e1, e2] at q1
      rcases q1 with q1 | ⟨q1, q2⟩ | ⟨q1, q2⟩
      · omega
      · omega
      · rcases hne with hne | hne
        · exact hne q1
        · omega
    · have e1 : qR true = 63 := rfl
      rw [e1] at q1
      rcases q1 with q1 | ⟨q1, q2⟩ | ⟨q1, q2⟩
      · omega
      · rcases hne with hne | hne
        · exact hne q1
        · rw [q1] at hne
          exact Bool.noConfusion hne.1
      · omega
theorem itC_ml {kd : Bool} {d k j : Nat} (h : itC kd d k j) : mlC k j := by
  have := itC_8 h
  unfold mlC
  omega
theorem itM_ml {kd : Bool} {d k j : Nat} (h : itM kd d k j) : mlM k j := by
  have := itM_8 h
  unfold mlM
  omega
theorem dD_at {kd : Bool} {d : Nat} {S T S' T' : SS} {P : Nat → Nat → Prop} (h : dD kd d S T) (hS : FP atC S S') (hT : FP P T T') (hP : ∀ k j, P k j → k = 52) : dD kd d S' T' := by
  refine h.f hS hT (fun k hk q => ?_) (fun k hk q => ?_)
  · have := slC_at (d := d) hk
    have q1 : (slC kd d k).1 = 1 := q.1
    omega
  · have := qR_at kd
    have := hP _ _ q
    omega
theorem c_addEnd {N e : Nat} {S : SS} (he : e < 7) (h80 : gi S 8 0 = nI e) : ∃ S2, fX5_addEnd N S 8 = some S2 ∧ FP (fun k j => (k = 8 ∧ j = 0) ∨ (9 ≤ k ∧ k ≤ 11 ∧ j = e)) S S2 ∧ gi S2 8 0 = nI (e + 1) ∧ ∀ k, k < cn false → S2.1 (slC false e k).1 (slC false e k).2 = nI (usK false k) := by
  unfold fX5_addEnd
  have e1 : ∀ v, gi (pa S 9 (nI e) v) 8 0 = nI e := fun v => h80
  have e2 : ∀ v w, gi (pa (pa S 9 (nI e) v) 10 (nI e) w) 8 0 = nI e := fun v w => h80
  have e3 : ∀ v w u, gi (pa (pa (pa S 9 (nI e) v) 10 (nI e) w) 11 (nI e) u) 8 0 = nI e := fun v w u => h80
  rw [h80, if_neg (show ¬ (7 : Int32) ≤ nI e from nI_ge (b := 7) he (by omega)), ck_in he (by omega)]
  simp only [lt_s9]
  rw [e1, ck_in he (by omega), e2, ck_in he (by omega), e3, nI_1]
  refine ⟨_, rfl, ?_, by rw [gi_pj]; rfl, fun k hk => ?_⟩
  · exact (((FP.pa (Or.inr ⟨by omega, by omega, nI_clamp (by omega)⟩)).tr (FP.pa (Or.inr ⟨by omega, by omega, nI_clamp (by omega)⟩))).tr (FP.pa (Or.inr ⟨by omega, by omega, nI_clamp (by omega)⟩))).tr (FP.pj (Or.inl ⟨rfl, rfl⟩))
  · have hk' : k < 3 := hk
    have s1 : (slC false e k).1 = 9 + k := rfl
    have s2 : (slC false e k).2 = e := rfl
    rw [s1, s2, row_pj, if_neg (by omega)]
    rcases (by omega : k = 0 ∨ k = 1 ∨ k = 2) with rfl | rfl | rfl
    · rw [row_pa, if_neg (by decide), row_pa, if_neg (by decide), row_pa, if_pos rfl, nI_clamp (by omega), pk_us]
      rfl
    · rw [row_pa, if_neg (by decide), row_pa, if_pos rfl, nI_clamp (by omega), pk_us]
      rfl
    · rw [row_pa, if_pos rfl, nI_clamp (by omega), pk_us]
      rfl
theorem ml_l {n N : Nat} {tp : Nat → Nat} (hN : 250 ≤ N) (hb : tpB n tp) {S0 T0 : SS} : ∀ (f c e a : Nat) (ru : Bool) (S T : SS), c = e + ru.toNat → 9 - c < f → e ≤ 7 → Bt n tp a S T → gi S 8 0 = nI e → gi T 52 19 = nI e → dD true 0 S T → (∀ d, d < e → dD false d S T) → (ru = false → ∀ k, k < cn true → S.1 (slC true 0 k).1 (slC true 0 k).2 = nI (usK true k)) → FP mlC S0 S → FP mlM T0 T → ∃ r S2 T2, fX6_read_l19 N f (i01 ru) (nI c) S = some (S2, r) ∧ fX12_readMill_l44 N f (i01 ru) 1 T = some (T2, r) ∧ (FP mlC S0 S2 ∧ FP mlM T0 T2 ∧ (r = -1 → mlE S2 T2)) := by
  have hn2 := hb.1
  have cA : ∀ k j, atC k j → mlC k j := fun k j h => Or.inl h
  have mA : ∀ k j, atM k j → mlM k j := fun k j h => Or.inl ⟨h.1, Or.inl h.2⟩
  have mW : ∀ k j, wrM k j → mlM k j := fun k j h => by
    unfold wrM at h
    unfold mlM
    omega
  have tn : ∀ b : Bool, b.toNat ≤ 1 := tn1
  intro f
  induction f with
  | zero =>
    intro c e a ru S T hc hf
    omega
  | succ f ih =>
    intro c e a ru S T hc hf hE h h80 h19 hDs hDt hu fS fT
    have hru := tn ru
    obtain ⟨f, rfl⟩ : ∃ q, f = q + 1 := ⟨f - 1, by omega⟩
    obtain ⟨S4, T4, s1, t1, s2, t2, b4⟩ := h.look hN hb
    have f4 : FP mlC S0 S4 := fS.tr (s2.mono cA)
    have g4 : FP mlM T0 T4 := fT.tr (t2.mono mA)
    have e80 : gi S4 8 0 = nI e := (s2.gi (by simp [atC])).trans h80
    have e19 : gi T4 52 19 = nI e := (t2.gi (by simp [atM])).trans h19
    have hDs4 : dD true 0 S4 T4 := dD_at hDs s2 t2 (fun k j q => q.1)
    have hDt4 : ∀ d, d < e → dD false d S4 T4 := fun d hd => dD_at (hDt d hd) s2 t2 (fun k j q => q.1)
    have x6 : fX6_read_l19 N (f + 1 + 1) (i01 ru) (nI c) S = (if ch n tp (sk n tp a) = 115 then (if i01 ru = 0 then fX6_read_j85 N (fX6_read_l19 N (f + 1)) 1 (nI c) (ch n tp (sk n tp a)) S4 else fX6_read_j49 N (fX6_read_l19 N (f + 1)) (i01 ru) (nI c) (ch n tp (sk n tp a)) S4) else fX6_read_j49 N (fX6_read_l19 N (f + 1)) (i01 ru) (nI c) (ch n tp (sk n tp a)) S4) := by
      show (if 240 < nI c then _ else _) = _
      rw [if_neg (show ¬ 240 < nI c from nI_nlt (a := 240) (by omega) (by omega)), b2_s s1]
    have x12 : fX12_readMill_l44 N (f + 1 + 1) (i01 ru) 1 T = (if ch n tp (sk n tp a) = 115 then (if i01 ru = 0 then (lt (pj T4 52 3 ((gi T4 52 3) + 1)) fun T8 => bd (fX12_items N T8 (ch n tp (sk n tp a)) 63 0 4) fun T10 => fX12_readMill_j155 N (fX12_readMill_l44 N (f + 1)) 1 T10) else (fX12_readMill_j97 N (fX12_readMill_l44 N (f + 1)) (i01 ru) (ch n tp (sk n tp a)) T4)) else (fX12_readMill_j97 N (fX12_readMill_l44 N (f + 1)) (i01 ru) (ch n tp (sk n tp a)) T4)) := by
      show (if (1 : Int32) = 0 then _ else _) = _
      rw [if_neg n10, if_pos h.2.2.2.2.1, b2_s t1]
    rw [x6, x12]
    generalize hA : sk n tp a = A at *
    have b1 : A < n → Bt n tp (A + 1) (pj S4 1 2 (gi S4 1 2 + 1)) (pj T4 52 3 (gi T4 52 3 + 1)) := fun q => b4.step q
    have fs1 : FP atC S4 (pj S4 1 2 (gi S4 1 2 + 1)) := FP.pj ⟨rfl, rfl⟩
    have ft1 : FP atM T4 (pj T4 52 3 (gi T4 52 3 + 1)) := FP.pj ⟨rfl, rfl⟩
    have bad : ∃ r S2 T2, some (S4, gi S4 1 2) = some (S2, r) ∧ fX12_readMill_j151 N (fX12_readMill_l44 N (f + 1)) (i01 ru) T4 = some (T2, r) ∧ (FP mlC S0 S2 ∧ FP mlM T0 T2 ∧ (r = -1 → mlE S2 T2)) := by
      have hA' := b4.2.2.2.2.2
      unfold fX12_readMill_j151
      rw [bd_s (m_bad1 b4.2.2.2.2.1), b4.2.2.2.1, b4.2.2.1]
      have q : gi (pj T4 52 4 (nI A)) 52 4 = nI A := by
        rw [gi_pj]
        rfl
      rw [j155_bad (by omega) q]
      exact ⟨nI A, S4, _, rfl, rfl, f4, (g4.tr (FP.pj (by unfold mlM; omega))).tr (FP.pj (by unfold mlM; omega)), fun z => absurd z (nI_m1 (by omega))⟩
    have tt : ∃ r S2 T2, fX6_read_j49 N (fX6_read_l19 N (f + 1)) (i01 ru) (nI c) (ch n tp A) S4 = some (S2, r) ∧ fX12_readMill_j97 N (fX12_readMill_l44 N (f + 1)) (i01 ru) (ch n tp A) T4 = some (T2, r) ∧ (FP mlC S0 S2 ∧ FP mlM T0 T2 ∧ (r = -1 → mlE S2 T2)) := by
      unfold fX6_read_j49 fX12_readMill_j97
      by_cases c1 : ch n tp A = 116
      · rw [if_pos c1, if_pos c1, e80, e19]
        by_cases c2 : e < 7
        · have hAn : A < n := (ch_in (v := 116) (by omega) c1).1
          obtain ⟨S5, a1, a2, a3, a4⟩ := c_addEnd (N := N) c2 e80
          rw [if_neg (show ¬ (7 : Int32) ≤ nI e from nI_ge (b := 7) c2 (by omega)), if_neg (show ¬ (7 : Int32) ≤ nI e from nI_ge (b := 7) c2 (by omega)), bd_s a1, lt_s9, c1]
          unfold fX6_read_j85
          rw [lt_s9]
          have fs5 : FP atC S5 (pj S5 1 2 (gi S5 1 2 + 1)) := FP.pj ⟨rfl, rfl⟩
          have b5 : Bt n tp A S5 T4 := b4.f a2 (FP.rf (P := fun _ _ => False)) (by omega) (by intro j; omega) (by omega) (fun q => q) (fun _ q => q) (fun q => q) (fun q => q)
          have b6 := b5.step hAn
          have g19 : gi (pj T4 52 3 (gi T4 52 3 + 1)) 52 19 = nI e := (ft1.gi (by simp [atM])).trans e19
          obtain ⟨S6, T6, r6, o1, o2, o3, o4, o5⟩ := cls (d := e) hN hb false c2 (fun _ => (fs5.gi (by simp [atC])).trans a3) b6 (fun k hk => by
            rw [fs5.1 _ _ (fun q => by
              have := slC_at (d := e) hk
              have q1 : (slC false e k).1 = 1 := q.1
              omega)]
            exact a4 k hk)
          have o1' : fX6_readItems N (pj S5 1 2 (gi S5 1 2 + 1)) 116 = some (S6, r6) := o1
          have o2' : fX12_items N (pj T4 52 3 (gi T4 52 3 + 1)) 116 64 (3 * nI e) 3 = some T6 := by
            have e3 : (3 : Int32) * nI e = nI (3 * e) := pk_mul 3 e
            rw [e3]
            exact o2
          rw [b2_s o1', g19, bd_s o2', lt_s9]
          have h19' : gi T6 52 19 = nI e := (o4.gi (fun q => by have := itM_8 q; omega)).trans g19
          rw [h19', nI_1 e]
          have gt : FP (fun k j => k = 52 ∧ j = 19) T6 (pj T6 52 19 (nI (e + 1))) := FP.pj ⟨rfl, rfl⟩
          have h806 : gi S6 8 0 = nI (e + 1) := (o3.gi (fun q => by have := itC_8 q; omega)).trans ((fs5.gi (by simp [atC])).trans a3)
          have F6 : FP mlC S0 S6 := ((f4.tr (a2.mono (fun k j q => by unfold mlC; omega))).tr (fs5.mono cA)).tr (o3.mono (fun k j => itC_ml))
          have G6 : FP mlM T0 (pj T6 52 19 (nI (e + 1))) := ((g4.tr (ft1.mono mA)).tr (o4.mono (fun k j => itM_ml))).tr (gt.mono (fun k j q => by unfold mlM; omega))
          have base : ∀ kd d, (kd = true ∨ d < e) → dD kd d S4 T4 → dD kd d S6 (pj T6 52 19 (nI (e + 1))) := fun kd d hkd hD => by
            have d5 : dD kd d S5 T4 := hD.f a2 (FP.rf (P := fun _ _ => False)) (fun k hk q => by
              cases kd
              · have q' : (9 + k = 8 ∧ d = 0) ∨ (9 ≤ 9 + k ∧ 9 + k ≤ 11 ∧ d = e) := q
                rcases hkd with hkd | hkd
                · cases hkd
                · omega
              · have q' : (8 = 8 ∧ k + 1 = 0) ∨ (9 ≤ 8 ∧ 8 ≤ 11 ∧ k + 1 = e) := q
                omega) (fun _ _ q => q)
            have d6 := dD_it (kd := false) (d := e) (dD_at d5 fs5 ft1 (fun k j q => q.1)) o3 o4 (by
              cases kd
              · right
                rcases hkd with hkd | hkd
                · cases hkd
                · exact ⟨rfl, by omega⟩
              · left
                exact Bool.noConfusion)
            exact dD_at d6 (FP.rf) gt (fun k j q => q.1)
          have hDs6 := base true 0 (Or.inl rfl) hDs4
          have hDt6 : ∀ d, d < e → dD false d S6 (pj T6 52 19 (nI (e + 1))) := fun d hd => base false d (Or.inr hd) (hDt4 d hd)
          have ho : (r6 = 1 ∧ ∃ a', Bt n tp a' S6 (pj T6 52 19 (nI (e + 1))) ∧ sk n tp a' = a' ∧ (2 ≤ e + 1 → ∀ S' T', FP atC S6 S' → FP wrM (pj T6 52 19 (nI (e + 1))) T' → (FP mlC S0 S' ∧ FP mlM T0 T' ∧ ((-1 : Int32) = -1 → mlE S' T'))) ∧ (a' < n → ∀ S' T', FP atC S6 S' → FP atM (pj T6 52 19 (nI (e + 1))) T' → Bt n tp (a' + 1) S' T' → ∃ r' S2 T2, fX6_read_l19 N (f + 1) (i01 ru) (nI (c + 1)) S' = some (S2, r') ∧ fX12_readMill_l44 N (f + 1) (i01 ru) 1 T' = some (T2, r') ∧ (FP mlC S0 S2 ∧ FP mlM T0 T2 ∧ (r' = -1 → mlE S2 T2)))) ∨ (r6 = 0 ∧ ∃ a' v, Bt n tp a' S6 (pj T6 52 19 (nI (e + 1))) ∧ sk n tp a' = a' ∧ ch n tp a' = nI v ∧ v < 256 ∧ 60 < v) ∨ (r6 = 0 ∧ ∃ w, w ≤ n ∧ gi S6 1 2 = nI w ∧ gi (pj T6 52 19 (nI (e + 1))) 52 4 = nI w) := by
            have bf : ∀ x, Bt n tp x S6 T6 → Bt n tp x S6 (pj T6 52 19 (nI (e + 1))) := fun x hx => hx.f (FP.rf (P := fun _ _ => False)) gt (fun q => q) (fun _ q => q) (fun q => q) (by omega) (by intro j; omega) (by omega) (by omega)
            rcases o5 with ⟨w0, a', w1, w2, w3, w4⟩ | ⟨w0, a', v, w1, w2⟩ | ⟨w0, w, w1, w2, w3⟩
            · have d6' : dD false e S6 (pj T6 52 19 (nI (e + 1))) := dD_at w4 FP.rf gt (fun k j q => q.1)
              have dall : ∀ d, d < e + 1 → dD false d S6 (pj T6 52 19 (nI (e + 1))) := fun d hd => by
                by_cases q : d = e
                · rw [q]
                  exact d6'
                · exact hDt6 d (by omega)
              refine Or.inl ⟨w0, a', bf a' w2, w3, fun q S' T' fs ft => ?_, fun q S' T' fs ft bb => ?_⟩
              · have wk : ∀ k j, wrM k j → k = 52 := fun k j q => q.1
                exact ⟨F6.tr (fs.mono cA), G6.tr (ft.mono mW), fun _ => ⟨e + 1, q, by omega, (fs.gi (by simp [atC])).trans h806, (ft.gi (by simp [wrM])).trans (by rw [gi_pj]; rfl), dD_at hDs6 fs ft wk, fun d hd => dD_at (dall d hd) fs ft wk⟩⟩
              · exact ih (c + 1) (e + 1) (a' + 1) ru S' T' (by omega) (by omega) (by omega) bb ((fs.gi (by simp [atC])).trans h806) ((ft.gi (by simp [atM])).trans (by rw [gi_pj]; rfl)) (dD_at hDs6 fs ft (fun k j q => q.1)) (fun d hd => dD_at (dall d hd) fs ft (fun k j q => q.1)) (fun q k hk => by
                  have hk4 : k < 4 := hk
                  rw [fs.1 _ _ (fun q => by have q1 : (8 : Nat) = 1 := q.1; omega), o3.1 _ _ (fun q => by
                    have q1 := itC_8 q
                    have e1 : (slC true 0 k).1 = 8 := rfl
                    rw [e1] at q1
                    rcases q1 with q1 | ⟨q1, _⟩ | ⟨_, q2, _⟩
                    · omega
                    · cases q1
                    · omega), fs5.1 _ _ (fun q => by have q1 : (8 : Nat) = 1 := q.1; omega), a2.1 _ _ (fun q => by
                    have q' : (8 = 8 ∧ k + 1 = 0) ∨ (9 ≤ 8 ∧ 8 ≤ 11 ∧ k + 1 = e) := q
                    omega), s2.1 _ _ (fun q => by have q1 : (8 : Nat) = 1 := q.1; omega)]
                  exact hu q k hk) (F6.tr (fs.mono cA)) (G6.tr (ft.mono mA))
            · exact Or.inr (Or.inl ⟨w0, a', v, bf a' w1, w2⟩)
            · exact Or.inr (Or.inr ⟨w0, w, w1, w2, (gt.gi (by omega)).trans w3⟩)
          exact tail (ru := ru) (c := c) (e := e + 1) (f := f) (Q := fun S2 T2 r' => FP mlC S0 S2 ∧ FP mlM T0 T2 ∧ (r' = -1 → mlE S2 T2)) hN hb (by omega) h806 (by rw [gi_pj]; rfl) ho (fun S' T' w fs ft hw => ⟨F6.tr (fs.mono cA), G6.tr (ft.mono mW), fun z => absurd z (nI_m1 (by omega))⟩)
        · rw [if_pos (show (7 : Int32) ≤ nI e from nI_le (a := 7) (by omega) (by omega)), if_pos (show (7 : Int32) ≤ nI e from nI_le (a := 7) (by omega) (by omega))]
          exact bad
      · rw [if_neg c1, if_neg c1]
        exact bad
    by_cases c0 : ch n tp A = 115
    · rw [if_pos c0, if_pos c0]
      cases ru
      · rw [ifi0, ifi0, lt_s9, c0]
        have hAn : A < n := (ch_in (v := 115) (by omega) c0).1
        unfold fX6_read_j85
        rw [lt_s9]
        have hu1 : ∀ k, k < cn true → (pj S4 1 2 (gi S4 1 2 + 1)).1 (slC true 0 k).1 (slC true 0 k).2 = nI (usK true k) := fun k hk => by
          rw [(s2.tr fs1).1 _ _ (fun q => by have q1 : (8 : Nat) = 1 := q.1; omega)]
          exact hu rfl k hk
        obtain ⟨S6, T6, r6, o1, o2, o3, o4, o5⟩ := cls (d := 0) hN hb true (by omega) (fun q => Bool.noConfusion q) (b1 hAn) hu1
        have o1' : fX6_readItems N (pj S4 1 2 (gi S4 1 2 + 1)) 115 = some (S6, r6) := o1
        have o2' : fX12_items N (pj T4 52 3 (gi T4 52 3 + 1)) 115 63 0 4 = some T6 := o2
        rw [b2_s o1', bd_s o2']
        have h806 : gi S6 8 0 = nI e := (o3.gi (fun q => by have := itC_8 q; omega)).trans ((fs1.gi (by simp [atC])).trans e80)
        have h196 : gi T6 52 19 = nI e := (o4.gi (fun q => by have := itM_8 q; omega)).trans ((ft1.gi (by simp [atM])).trans e19)
        have F6 : FP mlC S0 S6 := (f4.tr (fs1.mono cA)).tr (o3.mono (fun k j => itC_ml))
        have G6 : FP mlM T0 T6 := (g4.tr (ft1.mono mA)).tr (o4.mono (fun k j => itM_ml))
        have hDt6 : ∀ d, d < e → dD false d S6 T6 := fun d hd => dD_it (dD_at (hDt4 d hd) fs1 ft1 (fun k j q => q.1)) o3 o4 (Or.inl Bool.noConfusion)
        have ho : (r6 = 1 ∧ ∃ a', Bt n tp a' S6 T6 ∧ sk n tp a' = a' ∧ (2 ≤ e → ∀ S' T', FP atC S6 S' → FP wrM T6 T' → (FP mlC S0 S' ∧ FP mlM T0 T' ∧ ((-1 : Int32) = -1 → mlE S' T'))) ∧ (a' < n → ∀ S' T', FP atC S6 S' → FP atM T6 T' → Bt n tp (a' + 1) S' T' → ∃ r' S2 T2, fX6_read_l19 N (f + 1) (i01 true) (nI (c + 1)) S' = some (S2, r') ∧ fX12_readMill_l44 N (f + 1) (i01 true) 1 T' = some (T2, r') ∧ (FP mlC S0 S2 ∧ FP mlM T0 T2 ∧ (r' = -1 → mlE S2 T2)))) ∨ (r6 = 0 ∧ ∃ a' v, Bt n tp a' S6 T6 ∧ sk n tp a' = a' ∧ ch n tp a' = nI v ∧ v < 256 ∧ 60 < v) ∨ (r6 = 0 ∧ ∃ w, w ≤ n ∧ gi S6 1 2 = nI w ∧ gi T6 52 4 = nI w) := by
          rcases o5 with ⟨w0, a', w1, w2, w3, w4⟩ | w | w
          · refine Or.inl ⟨w0, a', w2, w3, fun q S' T' fs ft => ?_, fun q S' T' fs ft bb => ?_⟩
            · have wk : ∀ k j, wrM k j → k = 52 := fun k j q => q.1
              exact ⟨F6.tr (fs.mono cA), G6.tr (ft.mono mW), fun _ => ⟨e, q, hE, (fs.gi (by simp [atC])).trans h806, (ft.gi (by simp [wrM])).trans h196, dD_at w4 fs ft wk, fun d hd => dD_at (hDt6 d hd) fs ft wk⟩⟩
            · exact ih (c + 1) e (a' + 1) true S' T' (by rw [hc]; rfl) (by omega) hE bb ((fs.gi (by simp [atC])).trans h806) ((ft.gi (by simp [atM])).trans h196) (dD_at w4 fs ft (fun k j q => q.1)) (fun d hd => dD_at (hDt6 d hd) fs ft (fun k j q => q.1)) (fun q => Bool.noConfusion q) (F6.tr (fs.mono cA)) (G6.tr (ft.mono mA))
          · exact Or.inr (Or.inl w)
          · exact Or.inr (Or.inr w)
        exact tail (ru := true) (c := c) (e := e) (f := f) (Q := fun S2 T2 r' => FP mlC S0 S2 ∧ FP mlM T0 T2 ∧ (r' = -1 → mlE S2 T2)) hN hb hE h806 h196 ho (fun S' T' w fs ft hw => ⟨F6.tr (fs.mono cA), G6.tr (ft.mono mW), fun z => absurd z (nI_m1 (by omega))⟩)
      · rw [ifi1, ifi1]
        exact tt
    · rw [if_neg c0, if_neg c0]
      exact tt
theorem millE {n N : Nat} {tp : Nat → Nat} {S T : SS} (hN : 250 ≤ N) (hb : tpB n tp) (hC : tpC n tp S) (hM : tpM n tp T) : ∃ r S2 T2, fX6_read N S = some (S2, r) ∧ fX12_readMill N T = some (T2, r) ∧ FP mlC S S2 ∧ FP mlM T T2 ∧ (r = -1 → mlE S2 T2) := by
  unfold fX6_read fX5_clear fX12_readMill
  simp only [lt_s9]
  rw [bd_s rfl]
  have sA : ∀ k, k < cn true → (pj (pj (pj (pj (pj (pj S 8 0 0) 8 1 2) 8 2 1) 8 3 4) 8 4 20) 1 2 0).1 (slC true 0 k).1 (slC true 0 k).2 = nI (usK true k) := fun k hk => by
    have hk' : k < 4 := hk
    rcases (by omega : k = 0 ∨ k = 1 ∨ k = 2 ∨ k = 3) with rfl | rfl | rfl | rfl <;> rfl
  have sB : gi (pj (pj (pj (pj (pj (pj S 8 0 0) 8 1 2) 8 2 1) 8 3 4) 8 4 20) 1 2 0) 8 0 = nI 0 := rfl
  have sC : gi (pj (pj (pj (pj (pj (pj S 8 0 0) 8 1 2) 8 2 1) 8 3 4) 8 4 20) 1 2 0) 1 2 = nI 0 := rfl
  have sF : FP mlC S (pj (pj (pj (pj (pj (pj S 8 0 0) 8 1 2) 8 2 1) 8 3 4) 8 4 20) 1 2 0) := (((((FP.pj (Or.inr ⟨by omega, by omega⟩)).tr (FP.pj (Or.inr ⟨by omega, by omega⟩))).tr (FP.pj (Or.inr ⟨by omega, by omega⟩))).tr (FP.pj (Or.inr ⟨by omega, by omega⟩))).tr (FP.pj (Or.inr ⟨by omega, by omega⟩))).tr (FP.pj (Or.inl ⟨rfl, rfl⟩))
  revert sA sB sC sF
  generalize (pj (pj (pj (pj (pj (pj S 8 0 0) 8 1 2) 8 2 1) 8 3 4) 8 4 20) 1 2 0) = S1
  intro sA sB sC sF
  have t3 : gi (pj (pj (pj T 52 3 0) 52 4 (-1)) 52 19 0) 52 3 = nI 0 := rfl
  have t4 : gi (pj (pj (pj T 52 3 0) 52 4 (-1)) 52 19 0) 52 4 = -1 := rfl
  have t19 : gi (pj (pj (pj T 52 3 0) 52 4 (-1)) 52 19 0) 52 19 = nI 0 := rfl
  have tF : FP mlM T (pj (pj (pj T 52 3 0) 52 4 (-1)) 52 19 0) := ((FP.pj (by unfold mlM; omega)).tr (FP.pj (by unfold mlM; omega))).tr (FP.pj (by unfold mlM; omega))
  revert t3 t4 t19 tF
  generalize (pj (pj (pj T 52 3 0) 52 4 (-1)) 52 19 0) = T1
  intro t3 t4 t19 tF
  have us : ∀ (j i f : Nat) (T' : SS), i + j = 4 → j < f → FP (fun k _ => k = 63) T1 T' → (∀ k, k < i → T'.1 63 k = nI (usK true k)) → ∃ T2, fX12_readMill_l19 N f 0 (nI i) T' = fX12_readMill_l44 N N 0 1 T2 ∧ FP (fun k _ => k = 63) T1 T2 ∧ ∀ k, k < 4 → T2.1 63 k = nI (usK true k) := by
    intro j
    induction j with
    | zero =>
      intro i f T' hi hf fT h
      obtain ⟨f, rfl⟩ : ∃ q, f = q + 1 := ⟨f - 1, by omega⟩
      have : i = 4 := by omega
      subst this
      unfold fX12_readMill_l19
      rw [if_pos (by decide)]
      exact ⟨T', rfl, fT, h⟩
    | succ j ih =>
      intro i f T' hi hf fT h
      obtain ⟨f, rfl⟩ : ∃ q, f = q + 1 := ⟨f - 1, by omega⟩
      have e1 : fX12_usual N 115 (nI i) = some (nI (usK true i)) := (k_bnd true i (show i < 4 by omega)).2.2.2.2.2.2.2.2
      unfold fX12_readMill_l19
      rw [if_neg (show ¬ (4 : Int32) ≤ nI i from nI_ge (b := 4) (by omega) (by omega)), bd_s e1, ck_in (by omega) (by omega), lt_s9, lt_s9, nI_1]
      refine ih (i + 1) f _ (by omega) (by omega) (fT.tr (FP.pa rfl)) (fun k hk => ?_)
      rw [row_pa, if_pos rfl, nI_clamp (by omega)]
      by_cases q : k = i
      · rw [q, pk_us]
      · rw [pk_un q]
        exact h k (by omega)
  obtain ⟨T2, z1, z2, z3⟩ := us 4 0 N T1 (by omega) (by omega) FP.rf (fun k hk => absurd hk (by omega))
  have z1' : fX12_readMill_l19 N N 0 0 T1 = _ := z1
  rw [z1']
  have b : Bt n tp 0 S1 T2 := ⟨hC.f sF (by unfold mlC; omega) (by unfold mlC; intro j; omega), (hM.f tF (by unfold mlM; omega) (by unfold mlM; intro j; omega)).f z2 (by omega) (by intro j; omega), sC, (z2.gi (by omega)).trans t3, (z2.gi (by omega)).trans t4, Nat.zero_le _⟩
  obtain ⟨r, S3, T3, y1, y2, y3, y4, y5⟩ := ml_l hN hb (S0 := S) (T0 := T) N 0 0 0 false S1 T2 rfl (by omega) (by omega) b sB ((z2.gi (by omega)).trans t19) (fun k hk => by
    have hkb := k_bnd true k hk
    refine ⟨usK true k, hkb.2.2.2.2.1, hkb.2.2.2.2.2.1, sA k hk, ?_⟩
    show T2.1 63 (0 + k) = _
    rw [Nat.zero_add]
    exact z3 k hk) (fun d hd => absurd hd (by omega)) (fun _ => sA) sF (tF.tr (z2.mono (fun k j q => Or.inr (Or.inl q))))
  exact ⟨r, S3, T3, y1, y2, y3, y4, y5⟩
