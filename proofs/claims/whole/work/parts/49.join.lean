/-! tales joined and cut -/
theorem tls_perm {E : Nat} {bh ah : Nat → Int32} {L L' : List (List Nat)} (p : L.Perm L') (h : tls E bh ah L) : tls E bh ah L' := by
  have pf : L.flatten.Perm L'.flatten := List.Perm.flatten p
  exact ⟨pf.nodup_iff.mp h.1, fun d => (pf.mem_iff.symm).trans (h.2.1 d), fun t ht => h.2.2 t (p.mem_iff.mpr ht)⟩
theorem wf_perm {E : Nat} {m : Nat → Int32} (h : wfL E m) {t : List Nat} {d : Nat} (hE : E ≤ 7) (hd : d < E) (ht : tw m d = t) : ∃ R, tls E (fun d => m (14 + d)) (fun d => m (21 + d)) (t :: R) ∧ ∀ t', t' ∈ t :: R → ∀ d e, d ∈ t' → e ∈ t' → bt (m 28) d = bt (m 28) e := by
  obtain ⟨_, ⟨L, h1, h2⟩, _⟩ := h
  obtain ⟨t', ht', hdt⟩ := tls_ex h1 hd
  have e := (tw_eq hE (tls_tl h1 ht') hdt).1
  rw [ht] at e
  subst e
  have p := List.perm_cons_erase ht'
  exact ⟨L.erase t, tls_perm p h1, fun t' q => h2 t' (p.mem_iff.mpr q)⟩
theorem any32 (x : Int32) : ∃ v, v < 4294967296 ∧ x = nI v := ⟨x.toBitVec.toNat, x.toBitVec.isLt, Int32.toBitVec_inj.mp (by
  show x.toBitVec = BitVec.ofNat 32 x.toBitVec.toNat
  simp)⟩
/-- numbers of a row alone -/
theorem wf_hi {E : Nat} {m m' : Nat → Int32} (hE : E ≤ 7) (hw : wfL E m) (h : ∀ j, j ≤ 28 → m' j = m j) (h31 : ∃ v, v ≤ 9999 ∧ m' 31 = nI v) (h32 : ∃ v, v ≤ 999 ∧ m' 32 = nI v) : wfL E m' := by
  obtain ⟨h1, ⟨L, h2, h2'⟩, h3, _⟩ := hw
  refine ⟨fun d hd => ?_, ⟨L, tls_c (fun d hd => ⟨h _ (by omega), h _ (by omega)⟩) h2, ?_⟩, ?_, any32 _, any32 _, h31, h32⟩
  · rw [h d (by omega), h (7 + d) (by omega)]
    exact h1 d hd
  · rw [h 28 (by omega)]
    exact h2'
  · rw [h 28 (by omega)]
    exact h3
theorem chn_app {bh ah : Nat → Int32} {b : Nat} {r : List Nat} (hr : chn bh ah (b :: r)) (hb : ∀ a, a < 2 ^ 31 → True) : ∀ (p : List Nat) {bh' : Nat → Int32} {a : Nat}, chn bh' ah (p ++ [a]) → (∀ x, x ∈ p → bh x = bh' x) → bh a = nI b → ah b = nI a → chn bh ah (p ++ a :: b :: r)
  | [], _, _, _, _, h1, h2 => ⟨h1, h2, hr⟩
  | [c], bh', a, h, e, h1, h2 => ⟨(e c (List.mem_cons_self ..)).trans h.1, h.2.1, h1, h2, hr⟩
  | c :: d :: p, bh', a, h, e, h1, h2 => ⟨(e c (List.mem_cons_self ..)).trans h.1, h.2.1, chn_app hr hb (d :: p) h.2.2 (fun x hx => e x (List.mem_cons_of_mem _ hx)) h1 h2⟩
/-- the tales with a and b knotted -/
theorem tls_join {E : Nat} {bh ah bh' ah' : Nat → Int32} {t1 t2 : List Nat} {R : List (List Nat)} {a b : Nat} {p r : List Nat} (h : tls E bh ah (t1 :: t2 :: R)) (e1 : t1 = p ++ [a]) (e2 : t2 = b :: r) (hb1 : bh' a = nI b) (hb2' : ∀ x, x < E → x ≠ a → bh' x = bh x) (ha1 : ah' b = nI a) (ha2' : ∀ x, x < E → x ≠ b → ah' x = ah x) : tls E bh' ah' ((t1 ++ t2) :: R) := by
  have ef : ((t1 ++ t2) :: R).flatten = (t1 :: t2 :: R).flatten := by simp
  have hnd := h.1
  have hnd' : (t1 ++ (t2 ++ R.flatten)).Nodup := by
    have : (t1 :: t2 :: R).flatten = t1 ++ (t2 ++ R.flatten) := by simp
    rw [← this]
    exact hnd
  have hn1 := List.nodup_append.mp hnd'
  have hn2 := List.nodup_append.mp hn1.2.1
  have dis12 : ∀ x, x ∈ t1 → x ∉ t2 := fun x h1 h2 => hn1.2.2 x h1 x (List.mem_append_left _ h2) rfl
  have dis1R : ∀ x, x ∈ t1 → x ∉ R.flatten := fun x h1 h2 => hn1.2.2 x h1 x (List.mem_append_right _ h2) rfl
  have dis2R : ∀ x, x ∈ t2 → x ∉ R.flatten := fun x h1 h2 => hn2.2.2 x h1 x h2 rfl
  have ma : a ∈ t1 := by rw [e1]; simp
  have lt1 : ∀ x, x ∈ t1 → x < E := fun x hx => (h.2.1 x).mp (by simp [hx])
  have lt2 : ∀ x, x ∈ t2 → x < E := fun x hx => (h.2.1 x).mp (by simp [hx])
  have ltR : ∀ x, x ∈ R.flatten → x < E := fun x hx => (h.2.1 x).mp (by
    show x ∈ t1 ++ (t2 ++ R.flatten)
    exact List.mem_append_right _ (List.mem_append_right _ hx))
  have mb : b ∈ t2 := by rw [e2]; simp
  refine ⟨by rw [ef]; exact hnd, by rw [ef]; exact h.2.1, fun t ht => ?_⟩
  rcases List.mem_cons.mp ht with rfl | ht
  · have c1 := (h.2.2 t1 (List.mem_cons_self ..)).1
    have c2 := (h.2.2 t2 (List.mem_cons_of_mem _ (List.mem_cons_self ..))).1
    have c2' : chn bh' ah' (b :: r) := by
      rw [e2] at c2 dis12
      -- b's own ahead changes, which its chain does not read
      cases r with
      | nil => exact (hb2' b (lt2 b mb) (fun z => dis12 a ma (by rw [← z]; simp))).trans c2
      | cons x r =>
        refine ⟨(hb2' b (lt2 b mb) (fun z => dis12 a ma (by rw [← z]; simp))).trans c2.1, ?_, ?_⟩
        · have : x ≠ b := fun z => by
            have := hn2.1
            rw [e2, z] at this
            simp at this
          exact (ha2' x (lt2 x (by rw [e2]; simp)) this).trans c2.2.1
        · refine chn_c (fun d hd => ⟨hb2' d (lt2 d (by rw [e2]; exact List.mem_cons_of_mem _ hd)) (fun z => dis12 a ma (by rw [← z]; exact List.mem_cons_of_mem _ hd)), ha2' d (lt2 d (by rw [e2]; exact List.mem_cons_of_mem _ hd)) (fun z => ?_)⟩) c2.2.2
          have := hn2.1
          rw [e2] at this
          exact (List.nodup_cons.mp this).1 (z ▸ hd)
    have c1' : chn bh ah' (p ++ [a]) := by
      rw [e1] at c1 dis12
      exact chn_c (fun d hd => ⟨rfl, ha2' d (lt1 d (by rw [e1]; exact hd)) (fun z => dis12 d hd (z ▸ mb))⟩) c1
    refine ⟨?_, fun d hd => ?_⟩
    · rw [e1, e2, List.append_assoc]
      refine chn_app c2' (fun _ _ => trivial) p c1' (fun x hx => hb2' x (lt1 x (by rw [e1]; simp [hx])) (fun z => ?_)) hb1 ha1
      have := hn1.1
      rw [e1] at this
      exact (List.nodup_append.mp this).2.2 x hx a (by simp) z
    · have hd' : t1.head? = some d := by
        rw [e1] at hd ⊢
        cases p with
        | nil => exact hd
        | cons c p => exact hd
      have hm : d ∈ t1 := List.mem_of_mem_head? (by rw [hd']; rfl)
      rw [ha2' d (lt1 d hm) (fun z => dis12 d hm (z ▸ mb))]
      exact (h.2.2 t1 (List.mem_cons_self ..)).2 d hd'
  · have hR := h.2.2 t (List.mem_cons_of_mem _ (List.mem_cons_of_mem _ ht))
    have nR : ∀ x, x ∈ t → x ≠ a ∧ x ≠ b := fun x hx => ⟨fun z => dis1R a ma (List.mem_flatten.mpr ⟨t, ht, z ▸ hx⟩), fun z => dis2R b mb (List.mem_flatten.mpr ⟨t, ht, z ▸ hx⟩)⟩
    have ltt : ∀ x, x ∈ t → x < E := fun x hx => ltR x (List.mem_flatten.mpr ⟨t, ht, hx⟩)
    refine ⟨chn_c (fun d hd => ⟨hb2' d (ltt d hd) (nR d hd).1, ha2' d (ltt d hd) (nR d hd).2⟩) hR.1, fun d hd => ?_⟩
    have hm : d ∈ t := List.mem_of_mem_head? (by rw [hd]; rfl)
    rw [ha2' d (ltt d hm) (nR d hm).2]
    exact hR.2 d hd
theorem op_ex {m : Nat → Int32} {a b : Nat} (h : opF m a b = true) : a ≠ b ∧ sdF m a = false ∧ sdF m b = false ∧ m (14 + a) = -1 ∧ m (21 + b) = -1 ∧ hdF m a ≠ b := by
  unfold opF at h
  simp at h
  obtain ⟨⟨⟨⟨⟨h1, h2⟩, h3⟩, h4⟩, h5⟩, h6⟩ := h
  exact ⟨h1, h2, h3, h4, h5, h6⟩
/-- two tales of a row that may be knotted -/
theorem op_two {E : Nat} {m : Nat → Int32} (hE : E ≤ 7) (hw : wfL E m) {a b : Nat} (ha : a < E) (hb : b < E) (ho : opF m a b = true) : ∃ p r R, tls E (fun d => m (14 + d)) (fun d => m (21 + d)) ((p ++ [a]) :: (b :: r) :: R) ∧ (∀ t', t' ∈ (p ++ [a]) :: (b :: r) :: R → ∀ d e, d ∈ t' → e ∈ t' → bt (m 28) d = bt (m 28) e) ∧ tw m a = p ++ [a] ∧ tw m b = b :: r := by
  obtain ⟨o1, o2, o3, o4, o5, o6⟩ := op_ex ho
  obtain ⟨L, h1, h2⟩ := hw.2.1
  obtain ⟨t1, q1, q2⟩ := tls_ex h1 ha
  obtain ⟨t2, q3, q4⟩ := tls_ex h1 hb
  have T1 := tls_tl h1 q1
  have T2 := tls_tl h1 q3
  have w1 := tw_eq hE T1 q2
  have w2 := tw_eq hE T2 q4
  -- a is the last of its own, b the first
  have e1 : ∃ p, t1 = p ++ [a] := by
    obtain ⟨p, r, e⟩ := List.append_of_mem q2
    cases r with
    | nil => exact ⟨p, e⟩
    | cons x r =>
      rw [e] at T1
      have := (chn_link T1.1).1
      have hx : x < E := T1.2.2.2 x (by simp)
      have this : m (14 + a) = nI x := this
      rw [o4] at this
      exact absurd this.symm (nI_m1 (by omega))
  have e2 : ∃ r, t2 = b :: r := by
    obtain ⟨p, r, e⟩ := List.append_of_mem q4
    rcases List.eq_nil_or_concat p with rfl | ⟨p', c, rfl⟩
    · exact ⟨r, e⟩
    · have e' : t2 = p' ++ c :: b :: r := by rw [e]; simp
      rw [e'] at T2
      have := (chn_link T2.1).2
      have hc : c < E := T2.2.2.2 c (by simp)
      have this : m (21 + b) = nI c := this
      rw [o5] at this
      exact absurd this.symm (nI_m1 (by omega))
  have hne : t1 ≠ t2 := fun z => by
    obtain ⟨r, e⟩ := e2
    apply o6
    rw [w1.2, z, e]
    rfl
  obtain ⟨p, rfl⟩ := e1
  obtain ⟨r, rfl⟩ := e2
  have P1 := List.perm_cons_erase q1
  have q3' : (b :: r) ∈ L.erase (p ++ [a]) := (List.mem_erase_of_ne (Ne.symm hne)).mpr q3
  have P2 := List.perm_cons_erase q3'
  have P : L.Perm ((p ++ [a]) :: (b :: r) :: (L.erase (p ++ [a])).erase (b :: r)) := P1.trans (P2.cons _)
  exact ⟨p, r, _, tls_perm P h1, fun t' q => h2 t' (P.mem_iff.mpr q), w1.1, w2.1⟩
/-- knotted: a row with b behind a -/
theorem wf_join {E : Nat} {m m' : Nat → Int32} (hE : E ≤ 7) (hw : wfL E m) {a b : Nat} (ha : a < E) (hb : b < E) (ho : opF m a b = true) (h1 : m' (14 + a) = nI b) (h2 : m' (21 + b) = nI a) (h3 : ∀ j, j ≠ 14 + a → j ≠ 21 + b → j ≠ 30 → m' j = m j) : wfL E m' ∧ tw m' a = tw m a ++ tw m b := by
  obtain ⟨o1, o2, o3, o4, o5, o6⟩ := op_ex ho
  obtain ⟨p, r, R, g1, g2, g3, g4⟩ := op_two hE hw ha hb ho
  have tl := tls_join (bh' := fun d => m' (14 + d)) (ah' := fun d => m' (21 + d)) g1 rfl rfl h1 (fun x hx hxa => h3 _ (by omega) (by omega) (by omega)) h2 (fun x hx hxb => h3 _ (by omega) (by omega) (by omega))
  have e28 : m' 28 = m 28 := h3 28 (by omega) (by omega) (by omega)
  have hsame : ∀ t', t' ∈ ((p ++ [a]) ++ (b :: r)) :: R → ∀ d e, d ∈ t' → e ∈ t' → bt (m 28) d = bt (m 28) e := by
    have ga : ∀ d, d ∈ p ++ [a] → bt (m 28) d = false := fun d hd => (g2 _ (List.mem_cons_self ..) d a hd (by simp)).trans o2
    have gb : ∀ d, d ∈ b :: r → bt (m 28) d = false := fun d hd => (g2 _ (List.mem_cons_of_mem _ (List.mem_cons_self ..)) d b hd (by simp)).trans o3
    intro t' ht' d e hd he
    rcases List.mem_cons.mp ht' with rfl | ht'
    · have q : ∀ x, x ∈ (p ++ [a]) ++ (b :: r) → bt (m 28) x = false := fun x hx => by
        rcases List.mem_append.mp hx with z | z
        · exact ga x z
        · exact gb x z
      rw [q d hd, q e he]
    · exact g2 t' (List.mem_cons_of_mem _ (List.mem_cons_of_mem _ ht')) d e hd he
  refine ⟨?_, ?_⟩
  · obtain ⟨w1, _, w3, _, _, w6, w7⟩ := hw
    refine ⟨fun d hd => ?_, ⟨_, tl, by rw [e28]; exact hsame⟩, by rw [e28]; exact w3, any32 _, any32 _, by rw [h3 31 (by omega) (by omega) (by omega)]; exact w6, by rw [h3 32 (by omega) (by omega) (by omega)]; exact w7⟩
    rw [h3 d (by omega) (by omega) (by omega), h3 (7 + d) (by omega) (by omega) (by omega)]
    exact w1 d hd
  · rw [g3, g4]
    exact (tw_eq hE (tls_tl tl (List.mem_cons_self ..)) (by simp)).1
