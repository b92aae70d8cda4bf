/-! pull and try on rows of both sides -/
theorem Lv.slot {E k j : Nat} {S : SS} {m : Nat → Int32} {v : Int32} (hE : E ≤ 7) (h : Lv E k S m) (hj : 5 ≤ j) (hj2 : j ≤ 9) : Lv E k (pj S k j v) (upd m (j + 23) v) := by
  obtain ⟨h1, h2, h3, h4, h5, h6, h7⟩ := h
  have hk : ∀ i, 1 ≤ i → (pj S k j v).1 (k + i) = S.1 (k + i) := fun i hi => by
    rw [row_pj, if_neg (by omega)]
  have h0 : ∀ i, gi (pj S k j v) k i = if i = j then v else gi S k i := fun i => by
    rw [gi_pj, if_pos rfl]
  refine ⟨by rw [h0, if_neg (by omega)]; exact h1, fun d hd => ?_, ?_, ?_, ?_, ?_, ?_⟩
  · rw [hk 1 (by omega), hk 2 (by omega), hk 3 (by omega), hk 4 (by omega), pk_un (by omega), pk_un (by omega), pk_un (by omega), pk_un (by omega)]
    exact h2 d hd
  · rw [h0, upd_at]
    by_cases e : 5 = j
    · rw [if_pos e, if_pos (by omega)]
    · rw [if_neg e, if_neg (by omega)]
      exact h3
  · rw [h0, upd_at]
    by_cases e : 6 = j
    · rw [if_pos e, if_pos (by omega)]
    · rw [if_neg e, if_neg (by omega)]
      exact h4
  · rw [h0, upd_at]
    by_cases e : 7 = j
    · rw [if_pos e, if_pos (by omega)]
    · rw [if_neg e, if_neg (by omega)]
      exact h5
  · rw [h0, upd_at]
    by_cases e : 8 = j
    · rw [if_pos e, if_pos (by omega)]
    · rw [if_neg e, if_neg (by omega)]
      exact h6
  · rw [h0, upd_at]
    by_cases e : 9 = j
    · rw [if_pos e, if_pos (by omega)]
    · rw [if_neg e, if_neg (by omega)]
      exact h7
/-- one number of one end: row i of the State (1 colours, 2 lengths, 3 behind, 4 ahead) -/
theorem Lv.cell {E k i d : Nat} {S : SS} {m : Nat → Int32} {v : Int32} (hE : E ≤ 7) (h : Lv E k S m) (hi : 1 ≤ i) (hi2 : i ≤ 4) (hd : d < E) : Lv E k (pa S (k + i) (nI d) v) (upd m (7 * (i - 1) + d) v) := by
  obtain ⟨h1, h2, h3, h4, h5, h6, h7⟩ := h
  have e0 : ∀ j, gi (pa S (k + i) (nI d) v) k j = gi S k j := fun j => by
    unfold gi
    rw [row_pa, if_neg (by omega)]
  refine ⟨by rw [e0]; exact h1, fun q hq => ?_, by rw [e0, pk_un (by omega)]; exact h3, by rw [e0, pk_un (by omega)]; exact h4, by rw [e0, pk_un (by omega)]; exact h5, by rw [e0, pk_un (by omega)]; exact h6, by rw [e0, pk_un (by omega)]; exact h7⟩
  obtain ⟨g1, g2, g3, g4⟩ := h2 q hq
  have er : ∀ a, (pa S (k + i) (nI d) v).1 (k + a) q = if a = i ∧ q = d then v else S.1 (k + a) q := fun a => by
    rw [row_pa]
    by_cases e : a = i
    · subst e
      rw [if_pos rfl, nI_clamp (by omega), upd_at]
      by_cases e2 : q = d
      · rw [if_pos e2, if_pos ⟨rfl, e2⟩]
      · rw [if_neg e2, if_neg (fun z => e2 z.2)]
    · rw [if_neg (by omega), if_neg (fun z => e z.1)]
  refine ⟨?_, ?_, ?_, ?_⟩
  · rw [er, upd_at]
    by_cases e : 1 = i ∧ q = d
    · rw [if_pos e, if_pos (by omega)]
    · rw [if_neg e, if_neg (by omega)]
      exact g1
  · rw [er, upd_at]
    by_cases e : 2 = i ∧ q = d
    · rw [if_pos e, if_pos (by omega)]
    · rw [if_neg e, if_neg (by omega)]
      exact g2
  · rw [er, upd_at]
    by_cases e : 3 = i ∧ q = d
    · rw [if_pos e, if_pos (by omega)]
    · rw [if_neg e, if_neg (by omega)]
      exact g3
  · rw [er, upd_at]
    by_cases e : 4 = i ∧ q = d
    · rw [if_pos e, if_pos (by omega)]
    · rw [if_neg e, if_neg (by omega)]
      exact g4
/-- rows that read alike give the same State -/
theorem Lv.eq {E k : Nat} {S : SS} {m m' : Nat → Int32} (hE : E ≤ 7) (h : Lv E k S m) (e : ∀ j, relv E j → m' j = m j) : Lv E k S m' := by
  obtain ⟨h1, h2, h3, h4, h5, h6, h7⟩ := h
  have e' : ∀ j, 28 ≤ j → j < 33 → m' j = m j := fun j q1 q2 => e j ⟨fun z => absurd z (by omega), q2⟩
  refine ⟨h1, fun d hd => ?_, by rw [e' 28 (by omega) (by omega)]; exact h3, by rw [e' 29 (by omega) (by omega)]; exact h4, by rw [e' 30 (by omega) (by omega)]; exact h5, by rw [e' 31 (by omega) (by omega)]; exact h6, by rw [e' 32 (by omega) (by omega)]; exact h7⟩
  rw [e d ⟨fun _ => by omega, by omega⟩, e (7 + d) ⟨fun _ => by omega, by omega⟩, e (14 + d) ⟨fun _ => by omega, by omega⟩, e (21 + d) ⟨fun _ => by omega, by omega⟩]
  exact h2 d hd
theorem k_sh : ∀ v, v ≤ 20 → mx 1 (nI v - 1) = nI (max 1 (v - 1)) := by decide +kernel
/-- a row with x's neighbour off on either side: o behind d (b), or d behind o -/
def offB (m : Nat → Int32) (e : Nat) : Nat → Int32 := upd (upd m (21 + e) (-1)) (7 + e) (nI (max 1 (lnF m e - 1)))
def offA (m : Nat → Int32) (c : Nat) : Nat → Int32 := upd (upd m (14 + c) (-1)) (7 + c) (nI (max 1 (lnF m c - 1)))
def offD (m : Nat → Int32) (d : Nat) : Nat → Int32 := upd (upd m (14 + d) (-1)) (21 + d) (-1)
theorem Lv.shorten {E k N d : Nat} {S : SS} {m : Nat → Int32} (hE : E ≤ 7) (h : Lv E k S m) (hl : ∃ v, v ≤ 20 ∧ m (7 + d) = nI v) (hd : d < E) : ∃ S2, fX8_shorten N S k (nI d) = some S2 ∧ Fr [k, k + 1, k + 2, k + 3, k + 4] S S2 ∧ Lv E k S2 (upd m (7 + d) (nI (max 1 (lnF m d - 1)))) := by
  obtain ⟨v, v1, v2⟩ := hl
  have e : lnF m d = v := by
    unfold lnF
    rw [v2, nI_clamp (by omega)]
  unfold fX8_shorten
  rw [ck_in (by omega) (by omega), ck_in (by omega) (by omega), lt_s9, ga_nI (by omega), (h.2.1 d hd).2.1, v2, k_sh v v1, e]
  exact ⟨_, rfl, Fr.pa (by simp), h.cell (i := 2) hE (by omega) (by omega) hd⟩
theorem Lv.part {E k N a b : Nat} {S : SS} {m : Nat → Int32} (hE : E ≤ 7) (h : Lv E k S m) (ha : a < E) (hb : b < E) : ∃ S2, fX8_part N S k (nI a) (nI b) = some S2 ∧ Fr [k, k + 1, k + 2, k + 3, k + 4] S S2 ∧ Lv E k S2 (upd (upd m (14 + a) (-1)) (21 + b) (-1)) := by
  unfold fX8_part
  rw [ck_in (by omega) (by omega), lt_s9, ck_in (by omega) (by omega), lt_s9]
  exact ⟨_, rfl, (Fr.pa (by simp)).tr (Fr.pa (by simp)), (h.cell (i := 3) hE (by omega) (by omega) ha).cell (i := 4) hE (by omega) (by omega) hb⟩
theorem Lv.join {E k N a b : Nat} {S : SS} {m : Nat → Int32} (hE : E ≤ 7) (h : Lv E k S m) (ha : a < E) (hb : b < E) : ∃ S2, fX8_join N S k (nI a) (nI b) = some S2 ∧ Fr [k, k + 1, k + 2, k + 3, k + 4] S S2 ∧ Lv E k S2 (upd (upd m (14 + a) (nI b)) (21 + b) (nI a)) := by
  unfold fX8_join
  rw [ck_in (by omega) (by omega), lt_s9, ck_in (by omega) (by omega), lt_s9]
  exact ⟨_, rfl, (Fr.pa (by simp)).tr (Fr.pa (by simp)), (h.cell (i := 3) hE (by omega) (by omega) ha).cell (i := 4) hE (by omega) (by omega) hb⟩
/-- who is next to an end -/
theorem nb_ex {E : Nat} {m : Nat → Int32} (hE : E ≤ 7) (hw : wfL E m) {d : Nat} (hd : d < E) : (m (14 + d) = -1 ∨ ∃ e, e < E ∧ e ≠ d ∧ m (14 + d) = nI e ∧ m (21 + e) = nI d) ∧ (m (21 + d) = -1 ∨ ∃ c, c < E ∧ c ≠ d ∧ m (21 + d) = nI c ∧ m (14 + c) = nI d) ∧ ∀ e, m (14 + d) = nI e → m (21 + d) = nI e → e < E → False := by
  obtain ⟨h1, h2, _, _⟩ := wf_tw hE hw hd
  obtain ⟨pre, post, e⟩ := List.append_of_mem h2
  rw [e] at h1
  have n1 := List.nodup_append.mp h1.2.2.1
  have n2 := List.nodup_cons.mp n1.2.1
  have hB : m (14 + d) = -1 ∨ ∃ e, e < E ∧ e ∈ post ∧ m (14 + d) = nI e ∧ m (21 + e) = nI d := by
    cases post with
    | nil =>
      have h0 := chn_last h1.1
      exact Or.inl h0
    | cons y r =>
      have h0 := chn_link h1.1
      exact Or.inr ⟨y, h1.2.2.2 y (by simp), by simp, h0.1, h0.2⟩
  have hA : m (21 + d) = -1 ∨ ∃ c, c < E ∧ c ∈ pre ∧ m (21 + d) = nI c ∧ m (14 + c) = nI d := by
    rcases List.eq_nil_or_concat pre with rfl | ⟨p, c, rfl⟩
    · have h0 := h1.2.1 d rfl
      exact Or.inl h0
    · have e' : p.concat c ++ d :: post = p ++ c :: d :: post := by simp
      rw [e'] at h1
      have h0 := chn_link h1.1
      exact Or.inr ⟨c, h1.2.2.2 c (by simp), by simp, h0.2, h0.1⟩
  refine ⟨?_, ?_, ?_⟩
  · rcases hB with h | ⟨y, y1, y2, y3⟩
    · exact Or.inl h
    · exact Or.inr ⟨y, y1, fun z => n2.1 (z ▸ y2), y3⟩
  · rcases hA with h | ⟨y, y1, y2, y3⟩
    · exact Or.inl h
    · exact Or.inr ⟨y, y1, fun z => n1.2.2 y y2 d (List.mem_cons_self ..) z, y3⟩
  · intro y q1 q2 hy
    rcases hB with h | ⟨u, u1, u2, u3, _⟩
    · rw [h] at q1
      exact m1_nI (by omega) q1
    · rcases hA with h | ⟨v, v1, v2, v3, _⟩
      · rw [h] at q2
        exact m1_nI (by omega) q2
      · have e1 : u = y := (nI_eq (by omega) (by omega)).mp (u3.symm.trans q1)
        have e2 : v = y := (nI_eq (by omega) (by omega)).mp (v3.symm.trans q2)
        exact n1.2.2 v v2 u (List.mem_cons_of_mem _ u2) (by rw [e1, e2])
theorem off_B {N e : Nat} {T : SS} {m : Nat → Int32} {E : Nat} (hE : E ≤ 7) (he : e < E) (hr : T.1 67 = m) (hl : ∃ v, v ≤ 20 ∧ m (7 + e) = nI v) (f : SS → Option (SS × Int32)) : ∃ T2, (lt (pa T 67 (21 + nI e) (-1)) fun T7 => bd (fX12_shorten N T7 (nI e)) f) = f T2 ∧ Fr [67] T T2 ∧ T2.1 67 = offB m e := by
  obtain ⟨v, v1, v2⟩ := hl
  have el : lnF m e = v := by
    unfold lnF
    rw [v2, nI_clamp (by omega)]
  have g : (pa T 67 (nI (21 + e)) (-1)).1 67 (7 + e) = nI v := by
    rw [row_pa, if_pos rfl, nI_clamp (by omega), pk_un (by omega), hr, v2]
  have es : fX12_shorten N (pa T 67 (nI (21 + e)) (-1)) (nI e) = some (pa (pa T 67 (nI (21 + e)) (-1)) 67 (nI (7 + e)) (nI (max 1 (v - 1)))) := by
    unfold fX12_shorten
    rw [a7, ck_in (by omega) (by omega), ck_in (by omega) (by omega), lt_s9, ga_nI (by omega), g, k_sh v v1]
  rw [a21, lt_s9, bd_s es]
  refine ⟨_, rfl, (Fr.pa (by simp)).tr (Fr.pa (by simp)), ?_⟩
  unfold offB
  rw [row_pa, if_pos rfl, nI_clamp (by omega), row_pa, if_pos rfl, nI_clamp (by omega), hr, el]
theorem off_A {N e : Nat} {T : SS} {m : Nat → Int32} {E : Nat} (hE : E ≤ 7) (he : e < E) (hr : T.1 67 = m) (hl : ∃ v, v ≤ 20 ∧ m (7 + e) = nI v) (f : SS → Option (SS × Int32)) : ∃ T2, (lt (pa T 67 (14 + nI e) (-1)) fun T7 => bd (fX12_shorten N T7 (nI e)) f) = f T2 ∧ Fr [67] T T2 ∧ T2.1 67 = offA m e := by
  obtain ⟨v, v1, v2⟩ := hl
  have el : lnF m e = v := by
    unfold lnF
    rw [v2, nI_clamp (by omega)]
  have g : (pa T 67 (nI (14 + e)) (-1)).1 67 (7 + e) = nI v := by
    rw [row_pa, if_pos rfl, nI_clamp (by omega), pk_un (by omega), hr, v2]
  have es : fX12_shorten N (pa T 67 (nI (14 + e)) (-1)) (nI e) = some (pa (pa T 67 (nI (14 + e)) (-1)) 67 (nI (7 + e)) (nI (max 1 (v - 1)))) := by
    unfold fX12_shorten
    rw [a7, ck_in (by omega) (by omega), ck_in (by omega) (by omega), lt_s9, ga_nI (by omega), g, k_sh v v1]
  rw [a14, lt_s9, bd_s es]
  refine ⟨_, rfl, (Fr.pa (by simp)).tr (Fr.pa (by simp)), ?_⟩
  unfold offA
  rw [row_pa, if_pos rfl, nI_clamp (by omega), row_pa, if_pos rfl, nI_clamp (by omega), hr, el]
/-- d pulled: the whole row -/
def cutB (m : Nat → Int32) (d : Nat) : Nat → Int32 := if m (14 + d) = -1 then m else offB m (m (14 + d)).toNatClampNeg
def cutF (m : Nat → Int32) (d : Nat) : Nat → Int32 := offD (if m (21 + d) = -1 then cutB m d else offA (cutB m d) (m (21 + d)).toNatClampNeg) d
def cutN (m : Nat → Int32) (d : Nat) : Int32 := (if m (14 + d) = -1 then 0 else 1) + (if m (21 + d) = -1 then 0 else 1)
theorem m_cut {E N : Nat} {T : SS} (hE : E ≤ 7) (hw : wfL E (T.1 67)) {d : Nat} (hd : d < E) : ∃ T2, fX12_pullNow N T (nI d) = some (T2, cutN (T.1 67) d) ∧ Fr [67] T T2 ∧ T2.1 67 = cutF (T.1 67) d := by
  obtain ⟨hb, hf, hne⟩ := nb_ex hE hw hd
  have hj : ∀ (T' : SS) (x : Int32) (m2 : Nat → Int32), Fr [67] T T' → T'.1 67 = m2 → ∃ T2, fX12_pullNow_j72 N (nI d) x T' = some (T2, x) ∧ Fr [67] T T2 ∧ T2.1 67 = offD m2 d := fun T' x m2 hF hr => by
    unfold fX12_pullNow_j72
    rw [a14, a21, ck_in (by omega) (by omega), lt_s9, ck_in (by omega) (by omega), lt_s9]
    refine ⟨_, rfl, (hF.tr (Fr.pa (by simp))).tr (Fr.pa (by simp)), ?_⟩
    unfold offD
    rw [row_pa, if_pos rfl, nI_clamp (by omega), row_pa, if_pos rfl, nI_clamp (by omega), hr]
  unfold fX12_pullNow fX12_pullNow_j46 cutF cutN cutB
  rw [a14, a21, ck_in (by omega) (by omega), lt_s9, ck_in (by omega) (by omega), lt_s9, ga_nI (by omega), ga_nI (by omega)]
  rcases hb with hb | ⟨e, e1, e2, e3, e4⟩
  · simp only [if_pos hb]
    rcases hf with hf | ⟨c, c1, c2, c3, c4⟩
    · simp only [if_pos hf]
      exact hj T 0 _ Fr.rf rfl
    · have hc31 : c < 2 ^ 31 := by omega
      simp only [c3, if_neg (nI_m1 hc31), nI_clamp hc31]
      obtain ⟨v, _, v2, v3⟩ := (hw.1 c c1).2
      obtain ⟨T2, z1, z2, z3⟩ := off_A (N := N) hE c1 rfl ⟨v, v2, v3⟩ (fun T5 => lt (0 + 1) fun v6 => fX12_pullNow_j72 N (nI d) v6 T5)
      rw [ck_t (by rw [a14]; exact inb_nI (by omega) (by omega)), z1]
      exact hj T2 _ _ z2 z3
  · have he31 : e < 2 ^ 31 := by omega
    simp only [e3, if_neg (nI_m1 he31), nI_clamp he31]
    obtain ⟨u, _, u2, u3⟩ := (hw.1 e e1).2
    rw [ck_t (by rw [a21]; exact inb_nI (by omega) (by omega))]
    rcases hf with hf | ⟨c, c1, c2, c3, c4⟩
    · simp only [if_pos hf]
      obtain ⟨T2, z1, z2, z3⟩ := off_B (N := N) hE e1 rfl ⟨u, u2, u3⟩ (fun T9 => lt (0 + 1) fun v10 => fX12_pullNow_j72 N (nI d) v10 T9)
      rw [z1]
      exact hj T2 _ _ z2 z3
    · have hce : c ≠ e := fun z => hne e e3 (by rw [c3, z]) e1
      have hc31 : c < 2 ^ 31 := by omega
      simp only [c3, if_neg (nI_m1 hc31), nI_clamp hc31, ck_t (show inb (14 + nI c) 214 = true by rw [a14]; exact inb_nI (by omega) (by omega))]
      obtain ⟨v, _, v2, v3⟩ := (hw.1 c c1).2
      obtain ⟨T2, z1, z2, z3⟩ := off_B (N := N) hE e1 rfl ⟨u, u2, u3⟩ (fun T9 => lt (0 + 1) fun v10 => lt (pa T9 67 (14 + nI c) (-1)) fun T3 => bd (fX12_shorten N T3 (nI c)) fun T5 => lt (v10 + 1) fun v6 => fX12_pullNow_j72 N (nI d) v6 T5)
      rw [z1, lt_s9]
      have hl : ∃ v, v ≤ 20 ∧ offB (T.1 67) e (7 + c) = nI v := ⟨v, v2, by
        unfold offB
        rw [pk_un (by omega), pk_un (by omega), v3]⟩
      obtain ⟨T3, y1, y2, y3⟩ := off_A (N := N) hE c1 z3 hl (fun T5 => lt (0 + 1 + 1) fun v6 => fX12_pullNow_j72 N (nI d) v6 T5)
      rw [y1]
      exact hj T3 _ _ (z2.tr y2) y3
theorem c_cut {E N k : Nat} {S : SS} {m : Nat → Int32} (hE : E ≤ 7) (hv : Lv E k S m) (hw : wfL E m) {d : Nat} (hd : d < E) : ∃ S2, fX8_takeOff N S k (nI d) = some (S2, cutN m d) ∧ Fr [k, k + 1, k + 2, k + 3, k + 4] S S2 ∧ Lv E k S2 (cutF m d) := by
  obtain ⟨hb, hf, hne⟩ := nb_ex hE hw hd
  have h7 : d < 7 := by omega
  -- the second half, whatever the first has made of it
  have hj : ∀ (S' : SS) (x : Int32) (m1 : Nat → Int32), Fr [k, k + 1, k + 2, k + 3, k + 4] S S' → Lv E k S' m1 → m1 (21 + d) = m (21 + d) → (∀ c, c < E → m (21 + d) = nI c → ∃ v, v ≤ 20 ∧ m1 (7 + c) = nI v) → ∃ S2, fX8_takeOff_j36 N k (nI d) x S' = some (S2, x + (if m (21 + d) = -1 then 0 else 1)) ∧ Fr [k, k + 1, k + 2, k + 3, k + 4] S S2 ∧ Lv E k S2 (if m (21 + d) = -1 then m1 else upd (offA m1 (m (21 + d)).toNatClampNeg) (21 + d) (-1)) := fun S' x m1 hF hL h21 hl => by
    unfold fX8_takeOff_j36
    rw [ck_in h7 (by omega), ck_in h7 (by omega), ga_nI (by omega), (hL.2.1 d hd).2.2.2, h21]
    rcases hf with hf | ⟨c, c1, c2, c3, c4⟩
    · rw [if_pos hf, if_pos hf, if_pos hf, Int32.add_zero]
      exact ⟨S', rfl, hF, hL⟩
    · rw [c3, if_neg (nI_m1 (by omega)), if_neg (nI_m1 (by omega)), if_neg (nI_m1 (by omega)), nI_clamp (by omega)]
      obtain ⟨S3, y1, y2, y3⟩ := hL.shorten (N := N) hE (hl c c1 c3) c1
      have e21 : ga S3 (k + 4) (nI d) = nI c := by
        rw [ga_nI (by omega), (y3.2.1 d hd).2.2.2, pk_un (by omega), h21, c3]
      obtain ⟨S4, w1, w2, w3⟩ := y3.part (N := N) hE c1 hd
      rw [bd_s y1, ck_in h7 (by omega), e21, bd_s w1, lt_s9]
      refine ⟨S4, rfl, (hF.tr y2).tr w2, w3.eq hE (fun j _ => ?_)⟩
      unfold offA
      simp only [upd_at]
      by_cases q1 : j = 21 + d
      · simp [q1]
      · by_cases q2 : j = 14 + c
        · have q3 : ¬ j = 7 + c := by omega
          simp [q2]
        · simp [q1, q2]
  unfold fX8_takeOff
  rw [ck_in h7 (by omega), ck_in h7 (by omega), ga_nI (by omega), (hv.2.1 d hd).2.2.1]
  rcases hb with hb | ⟨e, e1, e2, e3, e4⟩
  · rw [if_pos hb]
    obtain ⟨S2, z1, z2, z3⟩ := hj S 0 m Fr.rf hv rfl (fun c c1 _ => by
      obtain ⟨v, _, v2, v3⟩ := (hw.1 c c1).2
      exact ⟨v, v2, v3⟩)
    refine ⟨S2, ?_, z2, z3.eq hE (fun j _ => ?_)⟩
    · rw [z1]
      unfold cutN
      rw [if_pos hb]
    · unfold cutF offD cutB
      simp only [if_pos hb, upd_at]
      rcases hf with hf | ⟨c, c1, c2, c3, c4⟩
      · rw [if_pos hf, if_pos hf]
        by_cases q1 : j = 21 + d
        · rw [if_pos q1, q1, hf]
        · rw [if_neg q1]
          by_cases q2 : j = 14 + d
          · rw [if_pos q2, q2, hb]
          · rw [if_neg q2]
      · rw [c3, if_neg (nI_m1 (by omega)), if_neg (nI_m1 (by omega)), nI_clamp (by omega)]
        simp only [upd_at]
        by_cases q1 : j = 21 + d
        · simp [q1]
        · rw [if_neg q1, if_neg q1]
          by_cases q2 : j = 14 + d
          · rw [if_pos q2, q2]
            unfold offA
            rw [pk_un (by omega), pk_un (by omega), hb]
          · rw [if_neg q2]
  · rw [e3, if_neg (nI_m1 (by omega))]
    obtain ⟨u, _, u2, u3⟩ := (hw.1 e e1).2
    obtain ⟨S3, y1, y2, y3⟩ := hv.shorten (N := N) hE ⟨u, u2, u3⟩ e1
    have e14 : ga S3 (k + 3) (nI d) = nI e := by
      rw [ga_nI (by omega), (y3.2.1 d hd).2.2.1, pk_un (by omega), e3]
    obtain ⟨S4, w1, w2, w3⟩ := y3.part (N := N) hE hd e1
    rw [bd_s y1, ck_in h7 (by omega), e14, bd_s w1, lt_s9]
    obtain ⟨S2, z1, z2, z3⟩ := hj S4 (0 + 1) _ (y2.tr w2) w3 (by rw [pk_un (by omega), pk_un (by omega), pk_un (by omega)]) (fun c c1 c3 => by
      have hce : c ≠ e := fun z => hne e e3 (by rw [c3, z]) e1
      obtain ⟨v, _, v2, v3⟩ := (hw.1 c c1).2
      exact ⟨v, v2, by rw [pk_un (by omega), pk_un (by omega), pk_un (by omega), v3]⟩)
    refine ⟨S2, ?_, z2, z3.eq hE (fun j _ => ?_)⟩
    · rw [z1]
      unfold cutN
      rw [e3, if_neg (nI_m1 (by omega))]
      rfl
    · unfold cutF offD cutB
      simp only [e3, if_neg (nI_m1 (show e < 2 ^ 31 by omega)), nI_clamp (show e < 2 ^ 31 by omega), upd_at]
      rcases hf with hf | ⟨c, c1, c2, c3, c4⟩
      · rw [if_pos hf, if_pos hf]
        unfold offB
        simp only [upd_at]
        by_cases q1 : j = 21 + d
        · have q2 : ¬ j = 21 + e := by omega
          have q3 : ¬ j = 14 + d := by omega
          have q4 : ¬ j = 7 + e := by omega
          rw [if_pos q1, if_neg q2, if_neg q3, if_neg q4, q1, hf]
        · rw [if_neg q1]
          by_cases q2 : j = 14 + d
          · have q3 : ¬ j = 21 + e := by omega
            rw [if_pos q2, if_neg q3, if_pos q2]
          · by_cases q3 : j = 7 + e
            · have q4 : ¬ j = 21 + e := by omega
              simp [q2, q3]
            · simp [q2, q3]
      · have hce : c ≠ e := fun z => hne e e3 (by rw [c3, z]) e1
        rw [c3, if_neg (nI_m1 (by omega)), if_neg (nI_m1 (by omega)), nI_clamp (by omega)]
        have el : lnF (upd (upd (upd m (7 + e) (nI (max 1 (lnF m e - 1)))) (14 + d) (-1)) (21 + e) (-1)) c = lnF (offB m e) c := by
          unfold lnF offB
          rw [pk_un (by omega), pk_un (by omega), pk_un (by omega), pk_un (by omega), pk_un (by omega)]
        unfold offA
        rw [el]
        generalize lnF (offB m e) c = w
        unfold offB
        simp only [upd_at]
        (repeat' split) <;> first | rfl | (exfalso; omega)
