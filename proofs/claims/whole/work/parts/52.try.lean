/-! a pulled row is well; a try on both sides -/
theorem wf_cutF {E : Nat} {m : Nat → Int32} (hE : E ≤ 7) (hw : wfL E m) {d : Nat} (hd : d < E) : wfL E (cutF m d) := by
  obtain ⟨hb, hf, hne⟩ := nb_ex hE hw hd
  have hE7 : ∀ x, x < E → x < 2 ^ 31 := fun x hx => by omega
  have len : ∀ (m1 : Nat → Int32) (c : Nat), (∃ v, 1 ≤ v ∧ v ≤ 20 ∧ m1 (7 + c) = nI v) → 1 ≤ max 1 (lnF m1 c - 1) ∧ max 1 (lnF m1 c - 1) ≤ 20 := fun m1 c ⟨v, v1, v2, v3⟩ => by
    have : lnF m1 c = v := by
      unfold lnF
      rw [v3, nI_clamp (by omega)]
    omega
  have hB : ∀ j, cutB m d j = if m (14 + d) = -1 then m j else offB m (m (14 + d)).toNatClampNeg j := fun j => by
    unfold cutB
    split <;> rfl
  rcases hb with hb | ⟨e, e1, e2, e3, e4⟩ <;> rcases hf with hf | ⟨c, c1, c2, c3, c4⟩
  · refine wf_cut hE hw hd (fun x hx => ?_) (fun x hx => ?_) (fun x hx => ?_) (fun x hx => ?_) ?_ ?_ ?_ <;> unfold cutF offD cutB <;> simp only [if_pos hb, if_pos hf, upd_at]
    · simp only [hf, eq_false (m1_nI (hE7 x hx)), or_false]
      (repeat' split) <;> first | rfl | (exfalso; omega)
    · simp only [hb, eq_false (m1_nI (hE7 x hx)), or_false]
      (repeat' split) <;> first | rfl | (exfalso; omega)
    · rw [if_neg (by omega), if_neg (by omega)]
      exact (hw.1 x hx).2
    · rw [if_neg (by omega), if_neg (by omega)]
    · rw [if_neg (by omega), if_neg (by omega)]
    · rw [if_neg (by omega), if_neg (by omega)]
    · rw [if_neg (by omega), if_neg (by omega)]
  · have hl := len m c (hw.1 c c1).2
    refine wf_cut hE hw hd (fun x hx => ?_) (fun x hx => ?_) (fun x hx => ?_) (fun x hx => ?_) ?_ ?_ ?_ <;> unfold cutF offD cutB <;> simp only [if_pos hb, c3, if_neg (nI_m1 (hE7 c c1)), nI_clamp (hE7 c c1), offA, upd_at]
    · simp only [nIe (hE7 c c1) (hE7 x hx)]
      (repeat' split) <;> first | rfl | (exfalso; omega)
    · simp only [hb, eq_false (m1_nI (hE7 x hx)), or_false]
      (repeat' split) <;> first | rfl | (exfalso; omega)
    · rw [if_neg (by omega), if_neg (by omega)]
      by_cases q : x = c
      · rw [if_pos (by omega)]
        exact ⟨_, hl.1, hl.2, rfl⟩
      · rw [if_neg (by omega), if_neg (by omega)]
        exact (hw.1 x hx).2
    · (repeat' split) <;> first | rfl | (exfalso; omega)
    · (repeat' split) <;> first | rfl | (exfalso; omega)
    · (repeat' split) <;> first | rfl | (exfalso; omega)
    · (repeat' split) <;> first | rfl | (exfalso; omega)
  · have hl := len m e (hw.1 e e1).2
    refine wf_cut hE hw hd (fun x hx => ?_) (fun x hx => ?_) (fun x hx => ?_) (fun x hx => ?_) ?_ ?_ ?_ <;> unfold cutF offD cutB <;> simp only [if_pos hf, e3, if_neg (nI_m1 (hE7 e e1)), nI_clamp (hE7 e e1), offB, upd_at]
    · simp only [hf, eq_false (m1_nI (hE7 x hx)), or_false]
      (repeat' split) <;> first | rfl | (exfalso; omega)
    · simp only [nIe (hE7 e e1) (hE7 x hx)]
      (repeat' split) <;> first | rfl | (exfalso; omega)
    · rw [if_neg (by omega), if_neg (by omega)]
      by_cases q : x = e
      · rw [if_pos (by omega)]
        exact ⟨_, hl.1, hl.2, rfl⟩
      · rw [if_neg (by omega), if_neg (by omega)]
        exact (hw.1 x hx).2
    · (repeat' split) <;> first | rfl | (exfalso; omega)
    · (repeat' split) <;> first | rfl | (exfalso; omega)
    · (repeat' split) <;> first | rfl | (exfalso; omega)
    · (repeat' split) <;> first | rfl | (exfalso; omega)
  · have hce : c ≠ e := fun z => hne e e3 (by rw [c3, z]) e1
    have hl := len m e (hw.1 e e1).2
    have hl2 := len (offB m e) c (by
      unfold offB
      rw [pk_un (by omega), pk_un (by omega)]
      exact (hw.1 c c1).2)
    refine wf_cut hE hw hd (fun x hx => ?_) (fun x hx => ?_) (fun x hx => ?_) (fun x hx => ?_) ?_ ?_ ?_ <;> unfold cutF offD cutB <;> simp only [e3, c3, if_neg (nI_m1 (hE7 c c1)), nI_clamp (hE7 c c1), if_neg (nI_m1 (hE7 e e1)), nI_clamp (hE7 e e1), offA, upd_at] <;> (try generalize lnF (offB m e) c = w at *) <;> simp only [offB, upd_at]
    · simp only [nIe (hE7 c c1) (hE7 x hx)]
      (repeat' split) <;> first | rfl | (exfalso; omega)
    · simp only [nIe (hE7 e e1) (hE7 x hx)]
      (repeat' split) <;> first | rfl | (exfalso; omega)
    · rw [if_neg (by omega), if_neg (by omega)]
      by_cases q : x = c
      · rw [if_pos (by omega)]
        exact ⟨_, hl2.1, hl2.2, rfl⟩
      · rw [if_neg (by omega), if_neg (by omega)]
        by_cases q2 : x = e
        · rw [if_pos (by omega)]
          exact ⟨_, hl.1, hl.2, rfl⟩
        · rw [if_neg (by omega), if_neg (by omega)]
          exact (hw.1 x hx).2
    · (repeat' split) <;> first | rfl | (exfalso; omega)
    · (repeat' split) <;> first | rfl | (exfalso; omega)
    · (repeat' split) <;> first | rfl | (exfalso; omega)
    · (repeat' split) <;> first | rfl | (exfalso; omega)
theorem cut_32 {E : Nat} {m : Nat → Int32} (hE : E ≤ 7) (hw : wfL E m) {d : Nat} (hd : d < E) : ∀ j, 28 ≤ j → cutF m d j = m j := by
  obtain ⟨hb, hf, hne⟩ := nb_ex hE hw hd
  intro j hj
  have hE7 : ∀ x, x < E → x < 2 ^ 31 := fun x hx => by omega
  rcases hb with hb | ⟨e, e1, e2, e3, e4⟩ <;> rcases hf with hf | ⟨c, c1, c2, c3, c4⟩ <;> unfold cutF offD cutB
  · simp only [if_pos hb, if_pos hf, upd_at]
    rw [if_neg (by omega), if_neg (by omega)]
  · simp only [if_pos hb, c3, if_neg (nI_m1 (hE7 c c1)), nI_clamp (hE7 c c1), offA, upd_at]
    rw [if_neg (by omega), if_neg (by omega), if_neg (by omega), if_neg (by omega)]
  · simp only [if_pos hf, e3, if_neg (nI_m1 (hE7 e e1)), nI_clamp (hE7 e e1), offB, upd_at]
    rw [if_neg (by omega), if_neg (by omega), if_neg (by omega), if_neg (by omega)]
  · simp only [e3, c3, if_neg (nI_m1 (hE7 c c1)), nI_clamp (hE7 c c1), if_neg (nI_m1 (hE7 e e1)), nI_clamp (hE7 e e1), offA, offB, upd_at]
    rw [if_neg (by omega), if_neg (by omega), if_neg (by omega), if_neg (by omega), if_neg (by omega), if_neg (by omega)]
/-- a try: the row after it -/
def tryJ (m : Nat → Int32) (a b : Nat) : Nat → Int32 := upd (upd (upd m (14 + a) (nI b)) (21 + b) (nI a)) 30 (m 30 ||| sl 1 (nI a))
def fadF (F : Nat) (m : Nat → Int32) (a : Nat) : Nat → Int32 := upd m a (nI (clF m a - F))
def tryF (g : Bool) (F : Nat) (m : Nat → Int32) (a b : Nat) : Nat → Int32 := upd (fadF F (fadF F (if g then tryJ m a b else m) a) b) 29 (m 29 + 1)
theorem wf_try {E F : Nat} {m : Nat → Int32} {g : Bool} (hE : E ≤ 7) (hw : wfL E m) {a b : Nat} (ha : a < E) (hb : b < E) (ho : opF m a b = true) : wfL E (tryF g F m a b) ∧ wfL E (if g then tryJ m a b else m) ∧ wfL E (fadF F (if g then tryJ m a b else m) a) := by
  have w1 : wfL E (if g then tryJ m a b else m) := by
    cases g
    · exact hw
    · refine (wf_join (m' := tryJ m a b) hE hw ha hb ho ?_ ?_ ?_).1
      · unfold tryJ
        rw [pk_un (by omega), pk_un (by omega), pk_us]
      · unfold tryJ
        rw [pk_un (by omega), pk_us]
      · intro j h1 h2 h3
        unfold tryJ
        rw [pk_un h3, pk_un h2, pk_un h1]
  have w2 := wf_fade (F := F) hE w1 ha
  have w3 := wf_fade (F := F) hE w2 hb
  refine ⟨wf_hi hE w3 (fun j hj => pk_un (by omega)) ?_ ?_, w1, w2⟩
  · unfold tryF
    rw [pk_un (by omega)]
    exact w3.2.2.2.2.2.1
  · unfold tryF
    rw [pk_un (by omega)]
    exact w3.2.2.2.2.2.2
theorem try_hi {F : Nat} {m : Nat → Int32} {g : Bool} {a b : Nat} (ha : a < 7) (hb : b < 7) : ∀ j, 31 ≤ j → tryF g F m a b j = m j := by
  intro j hj
  unfold tryF fadF
  rw [pk_un (by omega), pk_un (by omega), pk_un (by omega)]
  cases g
  · rfl
  · show tryJ m a b j = m j
    unfold tryJ
    rw [pk_un (by omega), pk_un (by omega), pk_un (by omega)]
theorem c_try {E N F H k : Nat} {G : Int32 → Int32 → Int32 → Int32 → Int32 → Bool} {pl m : Nat → Int32} {S : SS} (hN : 9 ≤ N) (h18 : 18 ≤ k) (hk48 : k < 40) (hK : Kx E N F H G pl S) (hv : Lv E k S m) (hw : wfL E m) {a b : Nat} (ha : a < E) (hb : b < E) (ho : opF m a b = true) : ∃ S2, fX10_tryOn N S k (nI a) (nI b) = some (S2, i01 (gwF G m pl a b (nI (tw m a).length))) ∧ Fr [16, 17, k, k + 1, k + 2, k + 3, k + 4] S S2 ∧ Lv E k S2 (tryF (gwF G m pl a b (nI (tw m a).length)) F m a b) := by
  have hE := hK.1
  obtain ⟨S1, z1, z2⟩ := c_goes hK hv ha hb (nI (tw m a).length)
  have hv1 := hv.f z2 (fr1617 h18)
  have hK1 := hK.f z2 kx1617
  unfold fX10_tryOn
  rw [bd_s (c_size hN hE hv hw ha), b2_s z1]
  have kk : ∀ x, x ∈ [k, k + 1, k + 2, k + 3, k + 4] → x ≠ 3 ∧ x ≠ 5 ∧ x ≠ 14 ∧ (x < 48 ∨ 52 ≤ x) := fun x hx => by
    simp at hx
    omega
  have hj : ∀ (S' : SS) (g : Bool), Kx E N F H G pl S' → Lv E k S' (if g then tryJ m a b else m) → ∃ S2, fX10_tryOn_j37 N k (nI a) (nI b) (i01 g) S' = some (S2, i01 g) ∧ Fr [k, k + 1, k + 2, k + 3, k + 4] S' S2 ∧ Lv E k S2 (tryF g F m a b) := fun S' g hK' hL => by
    obtain ⟨w0, w1, w2⟩ := wf_try (g := g) (F := F) hE hw ha hb ho
    obtain ⟨S3, y1, y2, y3⟩ := c_fade (N := N) hE hL w1 ha hK.2.2.2.1
    have hK3 : Kx E N F H G pl S3 := hK'.f y2 (fun x hx => by simp at hx; omega)
    obtain ⟨S4, x1, x2, x3⟩ := c_fade (N := N) hE y3 w2 hb hK.2.2.2.1
    unfold fX10_tryOn_j37
    rw [hK'.2.2.1, bd_s y1, hK3.2.2.1, bd_s x1, lt_s9, ck_t (show isb (i01 g) = true by cases g <;> rfl)]
    have e29 : gi S4 k 6 = m 29 := by
      rw [x3.2.2.2.1, pk_un (by omega), pk_un (by omega)]
      cases g
      · rfl
      · show tryJ m a b 29 = m 29
        unfold tryJ
        rw [pk_un (by omega), pk_un (by omega), pk_un (by omega)]
    rw [e29]
    refine ⟨_, rfl, ((y2.mono (by simp)).tr (x2.mono (by simp))).tr (Fr.pj (by simp)), ?_⟩
    exact x3.slot hE (j := 6) (by omega) (by omega)
  cases hg : gwF G m pl a b (nI (tw m a).length)
  · rw [ifi0]
    obtain ⟨S2, y1, y2, y3⟩ := hj S1 false hK1 hv1
    exact ⟨S2, y1, (z2.mono (by simp)).tr (y2.mono (fun x hx => List.mem_cons_of_mem _ (List.mem_cons_of_mem _ hx))), y3⟩
  · rw [ifi1]
    obtain ⟨S3, y1, y2, y3⟩ := hv1.join (N := N) hE ha hb
    rw [bd_s y1, lt_s9]
    have e30 : gi S3 k 7 = m 30 := by
      rw [y3.2.2.2.2.1, pk_un (by omega), pk_un (by omega)]
    rw [e30]
    have hK3 : Kx E N F H G pl S3 := hK1.f y2 kk
    have f4 : Fr [k, k + 1, k + 2, k + 3, k + 4] S3 (pj S3 k 7 (m 30 ||| sl 1 (nI a))) := Fr.pj (by simp)
    obtain ⟨S2, x1, x2, x3⟩ := hj (pj S3 k 7 (m 30 ||| sl 1 (nI a))) true (hK3.f f4 kk) (y3.slot hE (j := 7) (by omega) (by omega))
    exact ⟨S2, x1, (z2.mono (by simp)).tr (((y2.tr f4).tr x2).mono (fun x hx => List.mem_cons_of_mem _ (List.mem_cons_of_mem _ hx))), x3⟩
theorem m_try {E N F H : Nat} {G : Int32 → Int32 → Int32 → Int32 → Int32 → Bool} {pl : Nat → Int32} {T : SS} (hN : 9 ≤ N) (hK : Mx E N F H G pl T) (hw : wfL E (T.1 67)) {a b : Nat} (ha : a < E) (hb : b < E) (ho : opF (T.1 67) a b = true) : ∃ T2, fX12_tryNow N T (nI a) (nI b) = some (T2, i01 (gwF G (T.1 67) pl a b (nI (tw (T.1 67) a).length))) ∧ Fr [61, 62, 67] T T2 ∧ T2.1 67 = tryF (gwF G (T.1 67) pl a b (nI (tw (T.1 67) a).length)) F (T.1 67) a b := by
  have hE := hK.1
  obtain ⟨T1, z1, z2⟩ := m_fits hN hK hw ha hb
  have hK1 := hK.f z2 mx6162
  have e67 : T1.1 67 = T.1 67 := z2.row (by decide)
  unfold fX12_tryNow
  rw [b2_s z1]
  have hj : ∀ (T' : SS) (g : Bool), Mx E N F H G pl T' → T'.1 67 = (if g then tryJ (T.1 67) a b else T.1 67) → ∃ T2, fX12_tryNow_j44 N (nI a) (nI b) (i01 g) T' = some (T2, i01 g) ∧ Fr [67] T' T2 ∧ T2.1 67 = tryF g F (T.1 67) a b := fun T' g hM' hr => by
    obtain ⟨w0, w1, w2⟩ := wf_try (g := g) (F := F) hE hw ha hb ho
    obtain ⟨T3, y1, y2, y3⟩ := m_fade (N := N) hE hM'.2.2.1 (by rw [hr]; exact w1) ha hK.2.2.2.1
    have hM3 := hM'.f y2 (by decide)
    rw [hr] at y3
    obtain ⟨T4, x1, x2, x3⟩ := m_fade (N := N) hE hM3.2.2.1 (by rw [y3]; exact w2) hb hK.2.2.2.1
    rw [y3] at x3
    unfold fX12_tryNow_j44
    rw [bd_s y1, bd_s x1, lt_s9]
    have e29 : ga T4 67 29 = T.1 67 29 := by
      show T4.1 67 29 = T.1 67 29
      rw [x3, pk_un (by omega), pk_un (by omega)]
      cases g
      · rfl
      · show tryJ (T.1 67) a b 29 = T.1 67 29
        unfold tryJ
        rw [pk_un (by omega), pk_un (by omega), pk_un (by omega)]
    rw [e29]
    refine ⟨pa T4 67 29 (T.1 67 29 + 1), ?_, (y2.tr x2).tr (Fr.pa (by simp)), ?_⟩
    · cases g <;> rfl
    · rw [row_pa, if_pos rfl, show (29 : Int32).toNatClampNeg = 29 from rfl, x3]
      rfl
  cases hg : gwF G (T.1 67) pl a b (nI (tw (T.1 67) a).length)
  · rw [ifi0]
    obtain ⟨T2, y1, y2, y3⟩ := hj T1 false hK1 e67
    exact ⟨T2, y1, (z2.mono (by simp)).tr (y2.mono (by simp)), y3⟩
  · rw [ifi1, a14, a21, ck_in (by omega) (by omega), lt_s9, ck_in (by omega) (by omega), lt_s9, lt_s9]
    have e30 : ga (pa (pa T1 67 (nI (14 + a)) (nI b)) 67 (nI (21 + b)) (nI a)) 67 30 = T.1 67 30 := by
      show (pa (pa T1 67 (nI (14 + a)) (nI b)) 67 (nI (21 + b)) (nI a)).1 67 30 = T.1 67 30
      rw [row_pa, if_pos rfl, nI_clamp (by omega), pk_un (by omega), row_pa, if_pos rfl, nI_clamp (by omega), pk_un (by omega), e67]
    rw [e30]
    have f4 : Fr [67] T1 (pa (pa (pa T1 67 (nI (14 + a)) (nI b)) 67 (nI (21 + b)) (nI a)) 67 30 (T.1 67 30 ||| sl 1 (nI a))) := ((Fr.pa (by simp)).tr (Fr.pa (by simp))).tr (Fr.pa (by simp))
    obtain ⟨T2, x1, x2, x3⟩ := hj _ true (hK1.f f4 (by decide)) (by
      rw [row_pa, if_pos rfl, show (30 : Int32).toNatClampNeg = 30 from rfl, row_pa, if_pos rfl, nI_clamp (by omega), row_pa, if_pos rfl, nI_clamp (by omega), e67]
      rfl)
    exact ⟨T2, x1, (z2.mono (by simp)).tr ((f4.tr x2).mono (by simp)), x3⟩
