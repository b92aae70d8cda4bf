/-! a pulled end -/
theorem upd_at {f : Nat → Int32} {k j : Nat} {v : Int32} : upd f k v j = if j = k then v else f j := by
  by_cases h : j = k
  · subst h
    rw [pk_us, if_pos rfl]
  · rw [pk_un h, if_neg h]
theorem chn_cutL {bh ah bh' ah' : Nat → Int32} {c : Nat} {q : List Nat} : ∀ (p : List Nat), chn bh ah (p ++ c :: q) → (∀ x, x ∈ p → bh' x = bh x) → bh' c = -1 → (∀ x, x ∈ p ++ [c] → ah' x = ah x) → chn bh' ah' (p ++ [c])
  | [], _, _, h2, _ => h2
  | [a], h, e, h2, ea => ⟨(e a (List.mem_cons_self ..)).trans h.1, (ea c (by simp)).trans h.2.1, h2⟩
  | a :: b :: p, h, e, h2, ea => ⟨(e a (List.mem_cons_self ..)).trans h.1, (ea b (by simp)).trans h.2.1, chn_cutL (b :: p) h.2.2 (fun x hx => e x (List.mem_cons_of_mem _ hx)) h2 (fun x hx => ea x (List.mem_cons_of_mem _ hx))⟩
theorem chn_ct {bh ah bh' ah' : Nat → Int32} {d : Nat} {t : List Nat} (h : chn bh ah (d :: t)) (hb : ∀ x, x ∈ d :: t → bh' x = bh x) (ha : ∀ x, x ∈ t → ah' x = ah x) : chn bh' ah' (d :: t) := by
  cases t with
  | nil => exact (hb d (by simp)).trans h
  | cons e r => exact ⟨(hb d (by simp)).trans h.1, (ha e (by simp)).trans h.2.1, chn_c (fun x hx => ⟨hb x (List.mem_cons_of_mem _ hx), ha x hx⟩) h.2.2⟩
def pcs (pre post : List Nat) (d : Nat) : List (List Nat) := (if pre = [] then [] else [pre]) ++ ([d] :: (if post = [] then [] else [post]))
theorem pcs_fl {pre post : List Nat} {d : Nat} {R : List (List Nat)} : (pcs pre post d ++ R).flatten = ((pre ++ d :: post) :: R).flatten := by
  unfold pcs
  by_cases h1 : pre = [] <;> by_cases h2 : post = [] <;> simp [h1, h2]
theorem pcs_mem {pre post t : List Nat} {d : Nat} {R : List (List Nat)} (h : t ∈ pcs pre post d ++ R) : (t = pre ∧ pre ≠ []) ∨ t = [d] ∨ (t = post ∧ post ≠ []) ∨ t ∈ R := by
  unfold pcs at h
  by_cases h1 : pre = [] <;> by_cases h2 : post = [] <;> simp [h1, h2] at h
  · rcases h with h | h
    · exact Or.inr (Or.inl h)
    · exact Or.inr (Or.inr (Or.inr h))
  · rcases h with h | h | h
    · exact Or.inr (Or.inl h)
    · exact Or.inr (Or.inr (Or.inl ⟨h, h2⟩))
    · exact Or.inr (Or.inr (Or.inr h))
  · rcases h with h | h | h
    · exact Or.inl ⟨h, h1⟩
    · exact Or.inr (Or.inl h)
    · exact Or.inr (Or.inr (Or.inr h))
  · rcases h with h | h | h | h
    · exact Or.inl ⟨h, h1⟩
    · exact Or.inr (Or.inl h)
    · exact Or.inr (Or.inr (Or.inl ⟨h, h2⟩))
    · exact Or.inr (Or.inr (Or.inr h))
theorem wf_cut {E : Nat} {m m' : Nat → Int32} (hE : E ≤ 7) (hw : wfL E m) {d : Nat} (hd : d < E)
    (hbh : ∀ x, x < E → m' (14 + x) = if x = d ∨ m (21 + d) = nI x then -1 else m (14 + x))
    (hah : ∀ x, x < E → m' (21 + x) = if x = d ∨ m (14 + d) = nI x then -1 else m (21 + x))
    (hln : ∀ x, x < E → ∃ v, 1 ≤ v ∧ v ≤ 20 ∧ m' (7 + x) = nI v) (hcl : ∀ x, x < E → m' x = m x) (h28 : m' 28 = m 28) (h31 : m' 31 = m 31) (h32 : m' 32 = m 32) : wfL E m' := by
  obtain ⟨_, hdt, _, _⟩ := wf_tw hE hw hd
  obtain ⟨R, g1, g2⟩ := wf_perm hw hE hd (t := tw m d) rfl
  obtain ⟨pre, post, e⟩ := List.append_of_mem hdt
  rw [e] at g1 g2
  have T := tls_tl g1 (List.mem_cons_self ..)
  have hnd := T.2.2.1
  have hlt := T.2.2.2
  have n1 := List.nodup_append.mp hnd
  have n2 := List.nodup_cons.mp n1.2.1
  -- who is behind d, who is ahead of it
  have hb : ∀ x, x < E → (m (14 + d) = nI x ↔ post.head? = some x) := fun x hx => by
    cases post with
    | nil =>
      have h0 := chn_last T.1
      have : m (14 + d) = -1 := h0
      rw [this]
      exact ⟨fun z => absurd z (m1_nI (by omega)), fun z => nomatch z⟩
    | cons y r =>
      have h0 := (chn_link T.1).1
      have : m (14 + d) = nI y := h0
      have hy : y < E := hlt y (by simp)
      rw [this]
      simp
      exact nI_eq (by omega) (by omega)
  have hf : ∀ x, x < E → (m (21 + d) = nI x ↔ pre.getLast? = some x) := fun x hx => by
    rcases List.eq_nil_or_concat pre with rfl | ⟨p, c, rfl⟩
    · have h0 := T.2.1 d rfl
      have : m (21 + d) = -1 := h0
      rw [this]
      exact ⟨fun z => absurd z (m1_nI (by omega)), fun z => nomatch z⟩
    · have e' : p.concat c ++ d :: post = p ++ c :: d :: post := by simp
      rw [e'] at T
      have h0 := (chn_link T.1).2
      have : m (21 + d) = nI c := h0
      have hc : c < E := T.2.2.2 c (by simp)
      rw [this]
      simp
      exact nI_eq (by omega) (by omega)
  have inpre : ∀ x, x ∈ pre → x ∉ post ∧ x ≠ d := fun x hx => ⟨fun z => n1.2.2 x hx x (List.mem_cons_of_mem _ z) rfl, fun z => n1.2.2 x hx d (List.mem_cons_self ..) z⟩
  have inpost : ∀ x, x ∈ post → x ∉ pre ∧ x ≠ d := fun x hx => ⟨fun z => (inpre x z).1 hx, fun z => n2.1 (z ▸ hx)⟩
  have hfl : (pcs pre post d ++ R).flatten = ((pre ++ d :: post) :: R).flatten := pcs_fl
  have dR : ∀ t', t' ∈ R → ∀ x, x ∈ t' → x ∉ pre ++ d :: post := fun t' ht' x hx q => by
    have hh : ((pre ++ d :: post) ++ R.flatten).Nodup := by
      have := g1.1
      simpa using this
    exact (List.nodup_append.mp hh).2.2 x q x (List.mem_flatten.mpr ⟨t', ht', hx⟩) rfl
  have tl : tls E (fun d => m' (14 + d)) (fun d => m' (21 + d)) (pcs pre post d ++ R) := by
    refine ⟨by rw [hfl]; exact g1.1, by rw [hfl]; exact g1.2.1, fun t ht => ?_⟩
    rcases pcs_mem ht with ⟨rfl, hne⟩ | rfl | ⟨rfl, hne⟩ | hR
    · rcases List.eq_nil_or_concat t with rfl | ⟨p, c, rfl⟩
      · exact absurd rfl hne
      · rw [List.concat_eq_append] at *
        have e' : p ++ [c] ++ d :: post = p ++ c :: (d :: post) := by simp
        have hcl2 : ∀ x, x ∈ p ++ [c] → x < E := fun x hx => hlt x (List.mem_append_left _ hx)
        have hc : m (21 + d) = nI c := (hf c (hcl2 c (by simp))).mpr (by simp)
        have aah : ∀ x, x ∈ p ++ [c] → m' (21 + x) = m (21 + x) := fun x hx => by
          have hxE := hcl2 x hx
          rw [hah x hxE, if_neg]
          rintro (z | z)
          · exact (inpre x hx).2 z
          · have := (hb x hxE).mp z
            exact (inpre x hx).1 (List.mem_of_mem_head? (by rw [this]; rfl))
        refine ⟨chn_cutL p (by rw [← e']; exact T.1) (fun x hx => ?_) ?_ aah, fun x hx => ?_⟩
        · have hxE := hcl2 x (by simp [hx])
          show m' (14 + x) = m (14 + x)
          rw [hbh x hxE, if_neg]
          rintro (z | z)
          · exact (inpre x (by simp [hx])).2 z
          · rw [hc] at z
            have : c = x := (nI_eq (by have := hcl2 c (by simp); omega) (by omega)).mp z
            exact (List.nodup_append.mp n1.1).2.2 x hx c (by simp) this.symm
        · show m' (14 + c) = -1
          rw [hbh c (hcl2 c (by simp)), if_pos (Or.inr hc)]
        · have hx' : (p ++ [c] ++ d :: post).head? = some x := by
            cases p with
            | nil => exact hx
            | cons y p => exact hx
          have hm : x ∈ p ++ [c] := List.mem_of_mem_head? (by rw [hx]; rfl)
          show m' (21 + x) = -1
          rw [aah x hm]
          exact T.2.1 x hx'
    · refine ⟨?_, fun x hx => ?_⟩
      · show m' (14 + d) = -1
        rw [hbh d hd, if_pos (Or.inl rfl)]
      · have : x = d := by simp at hx; exact hx.symm
        subst this
        show m' (21 + x) = -1
        rw [hah x hd, if_pos (Or.inl rfl)]
    · cases t with
      | nil => exact absurd rfl hne
      | cons y r =>
        have hl2 : ∀ x, x ∈ y :: r → x < E := fun x hx => hlt x (List.mem_append_right _ (List.mem_cons_of_mem _ hx))
        have hc2 : chn (fun d => m (14 + d)) (fun d => m (21 + d)) (y :: r) := chn_suf (pre ++ [d]) (List.cons_ne_nil _ _) (by simpa using T.1)
        refine ⟨chn_ct hc2 (fun x hx => ?_) (fun x hx => ?_), fun x hx => ?_⟩
        · have hxE := hl2 x hx
          show m' (14 + x) = m (14 + x)
          rw [hbh x hxE, if_neg]
          rintro (z | z)
          · exact (inpost x hx).2 z
          · have := (hf x hxE).mp z
            exact (inpost x hx).1 (List.mem_of_getLast? this)
        · have hxE := hl2 x (List.mem_cons_of_mem _ hx)
          show m' (21 + x) = m (21 + x)
          rw [hah x hxE, if_neg]
          rintro (z | z)
          · exact (inpost x (List.mem_cons_of_mem _ hx)).2 z
          · have := (hb x hxE).mp z
            simp at this
            subst this
            exact (List.nodup_cons.mp n2.2).1 hx
        · simp at hx
          subst hx
          show m' (21 + y) = -1
          rw [hah y (hl2 y (by simp)), if_pos (Or.inr ((hb y (hl2 y (by simp))).mpr rfl))]
    · have hg := g1.2.2 t (List.mem_cons_of_mem _ hR)
      have hl2 : ∀ x, x ∈ t → x < E := fun x hx => (g1.2.1 x).mp (List.mem_flatten.mpr ⟨t, List.mem_cons_of_mem _ hR, hx⟩)
      have o1 : ∀ x, x ∈ t → m' (14 + x) = m (14 + x) ∧ m' (21 + x) = m (21 + x) := fun x hx => by
        have hxE := hl2 x hx
        have hno := dR t hR x hx
        constructor
        · rw [hbh x hxE, if_neg]
          rintro (z | z)
          · exact hno (by rw [z]; simp)
          · exact hno (List.mem_append_left _ (List.mem_of_getLast? ((hf x hxE).mp z)))
        · rw [hah x hxE, if_neg]
          rintro (z | z)
          · exact hno (by rw [z]; simp)
          · exact hno (List.mem_append_right _ (List.mem_cons_of_mem _ (List.mem_of_mem_head? (by rw [(hb x hxE).mp z]; rfl))))
      refine ⟨chn_c o1 hg.1, fun x hx => ?_⟩
      have hm : x ∈ t := List.mem_of_mem_head? (by rw [hx]; rfl)
      show m' (21 + x) = -1
      rw [(o1 x hm).2]
      exact hg.2 x hx
  refine ⟨fun x hx => ⟨by rw [hcl x hx]; exact (hw.1 x hx).1, hln x hx⟩, ⟨_, tl, fun t ht x y hx hy => ?_⟩, by rw [h28]; exact hw.2.2.1, any32 _, any32 _, by rw [h31]; exact hw.2.2.2.2.2.1, by rw [h32]; exact hw.2.2.2.2.2.2⟩
  rw [h28]
  rcases pcs_mem ht with ⟨rfl, _⟩ | rfl | ⟨rfl, _⟩ | hR
  · exact g2 _ (List.mem_cons_self ..) x y (List.mem_append_left _ hx) (List.mem_append_left _ hy)
  · simp at hx hy
    rw [hx, hy]
  · exact g2 _ (List.mem_cons_self ..) x y (List.mem_append_right _ (List.mem_cons_of_mem _ hx)) (List.mem_append_right _ (List.mem_cons_of_mem _ hy))
  · exact g2 t (List.mem_cons_of_mem _ hR) x y hx hy
