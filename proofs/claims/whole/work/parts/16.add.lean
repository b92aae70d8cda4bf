def fX2_add (N : Nat) (S : SS) (q1 : Nat) (p2 : Int32) : Option (SS × Int32) :=
  if 4 ≤ gi S 14 4 then some (S, -1) else if p2 < 0 then some (S, -1) else if p2 ≤ Int32.ofNat (aln S.2.2 q1) then
  (ck (inb (gi S 14 4) 4) <| ck (decide (p2 < 240)) <| ck (decide (aln S.2.2 q1 = 240)) <|
  lt (adS S (gi S 14 4).toNatClampNeg q1 p2) fun S1 => lt (pj S1 14 4 (gi S1 14 4 + 1)) fun S2 => some (S2, gi S2 14 4 - 1))
  else some (S, -1)
theorem as_self (vm : Vm) (c : ClassId) : vm.assignable c c = true := by
  show Vm.assignableAux vm (255 + 1) c c = true
  unfold Vm.assignableAux
  simp
theorem ad_cell {dA : Nat → ClassId} {ad : Nat → Nat} {cA : ClassId} {a i : Nat} {r : Nat → Int32} {sd : Int64} {ln : Nat → Nat} {n : Nat} {o : Nat → Int64} (hi : i < 4) {k : Nat} (h1 : k ≠ 15) (h2 : k ≠ 48 + i) : cellE (upA dA (48 + i) cA) (upA ad (48 + i) a) r sd (fun z => if z = 48 + i then n else ln z) o k = cellE dA ad r sd ln o k := by
  have ha : aln (fun z => if z = 48 + i then n else ln z) k = aln ln k := by
    simp only [aln, h2, if_false]
  have hd : upA dA (48 + i) cA k = dA k := by simp [upA, h2]
  unfold cellE
  rw [ha, hd]
  rcases (show i = 0 ∨ i = 1 ∨ i = 2 ∨ i = 3 by omega) with rfl | rfl | rfl | rfl <;> simp [upA, h1]
theorem adS_row {S : SS} {i q : Nat} {n : Int32} {k : Nat} (h : k ≠ 48 + i) : (adS S i q n).1 k = S.1 k := if_neg h
theorem ad_as {i : Nat} (hi : i < 4) (ad : Nat → Nat) (a : Nat) : updV (fun j => va_rf (lw4 (ad 48) (ad 49) (ad 50) (ad 51) j)) i (.ref a) = fun j => va_rf (lw4 (upA ad (48 + i) a 48) (upA ad (48 + i) a 49) (upA ad (48 + i) a 50) (upA ad (48 + i) a 51) j) := by
  funext j
  rcases (show i = 0 ∨ i = 1 ∨ i = 2 ∨ i = 3 by omega) with rfl | rfl | rfl | rfl <;> (by_cases h0 : j = 0 <;> by_cases h1 : j = 1 <;> by_cases h2 : j = 2 <;> by_cases h3 : j = 3 <;> first | omega | simp [updV, lw4, upA, va_rf, *])
/-- the world with the new row at its place -/
theorem ad_world {D : va_G} {dA : Nat → ClassId} {ad : Nat → Nat} {t1 t2 : Nat} {A : Nat → Prop} {s : State} {S T : SS} {o : Nat → Int64} {H H1 : Heap} {locs1 : List Loc} {a i q : Nat} {cA : ClassId} {n : Int32} (hi : i < 4) (hE : (∀ z, s.heap.size ≤ z → A z) ∧ STA t1 t2 A s s.heap)
    (hK : va_K D vwCl (tysA dA ++ [(cA, .int)]) s) (hP : va_P D vwCl (wsA dA ad S T o ++ ([(a, .inl (cA, n.toNatClampNeg, .inl (cpy0 S q n)))] : va_W)) H) (hD : va_D A (wsA dA ad S T o ++ ([(a, .inl (cA, n.toNatClampNeg, .inl (cpy0 S q n)))] : va_W)))
    (h15 : H1[ad 15]? = some ((vp_cell (dA 15) (4, .inr (.inr (.inr (.inr (lw4 (ad 48) (ad 49) (ad 50) (ad 51))))))).setSlot i (.ref a))) (hoth : ∀ z, z ≠ ad 15 → H1[z]? = H[z]?) (hS : va_S A s.heap H1 locs1) :
    WD D (upA dA (48 + i) cA) (upA ad (48 + i) a) t1 t2 A s (adS S i q n) T o H1 locs1 := by
  have hw : ∀ k, k < 79 → (wsA dA ad S T o ++ ([(a, .inl (cA, n.toNatClampNeg, .inl (cpy0 S q n)))] : va_W))[k]? = some (ad k, cellE dA ad (rwZ S T k) (sdZ S T k) S.2.2 o k) := fun k hk => wx_l (ws_at hk)
  have h79 : (wsA dA ad S T o ++ ([(a, .inl (cA, n.toNatClampNeg, .inl (cpy0 S q n)))] : va_W))[79]? = some (a, .inl (cA, n.toNatClampNeg, .inl (cpy0 S q n))) := wx_r ws_len
  have hne : ∀ k, k < 79 → k ≠ 15 → ad k ≠ ad 15 := fun k hk h e => h (hD.1 k 15 _ _ (hw k hk) (hw 15 (by decide)) e)
  have hna : ∀ k, k < 79 → ad k ≠ a := fun k hk e => by
    have := hD.1 k 79 _ _ (hw k hk) h79 e
    omega
  refine ⟨⟨hK.1, fun k z hz => ?_⟩, fun k z hz => ?_, ⟨fun k1 k2 z1 z2 e1 e2 e => ?_, fun k z hz => ?_⟩, hS, hE⟩
  · have hk : k < 79 := by
      have := (List.getElem?_eq_some_iff.mp hz).1
      rwa [ty_len] at this
    rw [ty_at hk] at hz
    cases hz
    by_cases h : k = 48 + i
    · subst h
      have e1 : tyK (48 + i) = .int := inK_ty (by rcases (show i = 0 ∨ i = 1 ∨ i = 2 ∨ i = 3 by omega) with rfl | rfl | rfl | rfl <;> rfl)
      have e2 : upA dA (48 + i) cA (48 + i) = cA := if_pos rfl
      rw [e1, e2]
      exact hK.2 79 _ tx_r
    · rw [show upA dA (48 + i) cA k = dA k from if_neg h]
      exact hK.2 k _ (tx_l (ty_at hk))
  · obtain ⟨hk, -⟩ := ws_key hz
    rw [ws_at hk] at hz
    cases hz
    by_cases h : k = 48 + i
    · subst h
      have e2 : upA ad (48 + i) a (48 + i) = a := if_pos rfl
      have e3 : cellE (upA dA (48 + i) cA) (upA ad (48 + i) a) (rwZ (adS S i q n) T (48 + i)) (sdZ (adS S i q n) T (48 + i)) (adS S i q n).2.2 o (48 + i) = .inl (cA, n.toNatClampNeg, .inl (cpy0 S q n)) := by
        rcases (show i = 0 ∨ i = 1 ∨ i = 2 ∨ i = 3 by omega) with rfl | rfl | rfl | rfl <;> rfl
      rw [e2, e3]
      show H1[a]? = some _
      rw [hoth a (fun e => hna 15 (by decide) e.symm)]
      exact hP 79 _ h79
    · have e2 : upA ad (48 + i) a k = ad k := if_neg h
      have e4 : rwZ (adS S i q n) T k = rwZ S T k := by simp only [rwZ, adS_row h]
      rw [e2, e4]
      by_cases h5 : k = 15
      · subst h5
        show H1[ad 15]? = some (vp_cell (upA dA (48 + i) cA 15) (4, _))
        rw [h15, show upA dA (48 + i) cA 15 = dA 15 from if_neg h]
        rw [vp_cell_q, vp_cell_q, arrV_store, ad_as hi]
      · rw [show sdZ (adS S i q n) T k = sdZ S T k from rfl, show (adS S i q n).2.2 = (fun z => if z = 48 + i then n.toNatClampNeg else S.2.2 z) from rfl, ad_cell hi h5 h]
        exact (hP k _ (hw k hk)).kept (hoth _ (hne k hk h5))
  · obtain ⟨g1, f1⟩ := ws_key e1
    obtain ⟨g2, f2⟩ := ws_key e2
    rw [f1, f2] at e
    by_cases h1 : k1 = 48 + i <;> by_cases h2 : k2 = 48 + i
    · omega
    · rw [show upA ad (48 + i) a k1 = a from if_pos h1, show upA ad (48 + i) a k2 = ad k2 from if_neg h2] at e
      exact absurd e.symm (hna k2 g2)
    · rw [show upA ad (48 + i) a k1 = ad k1 from if_neg h1, show upA ad (48 + i) a k2 = a from if_pos h2] at e
      exact absurd e (hna k1 g1)
    · rw [show upA ad (48 + i) a k1 = ad k1 from if_neg h1, show upA ad (48 + i) a k2 = ad k2 from if_neg h2] at e
      exact hD.1 k1 k2 _ _ (hw k1 g1) (hw k2 g2) e
  · obtain ⟨g1, f1⟩ := ws_key hz
    rw [f1]
    by_cases h1 : k = 48 + i
    · rw [show upA ad (48 + i) a k = a from if_pos h1]
      exact hD.2 79 _ h79
    · rw [show upA ad (48 + i) a k = ad k from if_neg h1]
      exact hD.2 k _ (hw k g1)
set_option maxHeartbeats 4000000 in
set_option maxRecDepth 100000 in
theorem kX2_add {l : Launch} {D : va_G} {dA : Nat → ClassId} {ad : Nat → Nat} {t1 t2 N q1 : Nat} (hq1 : inK q1 = true ∧ q1 < 52) {S T : SS} {o : Nat → Int64} {p2 r : Int32} {S' : SS} (hR : fX2_add N S q1 p2 = some (S', r)) : KE l D dA ad t1 t2 yX2_add cX2_add 3 { frames := 2, cells := 1, slots := 240, locals := 90 } [.ref (ad 14), .ref (ad q1), .int p2] S T o r S' T := by
  refine enE (plainFor_of_name (by decide)) (Nat.le_of_ble_eq_true rfl) ?_
  intro p ev s m args below meth c QQ hQ X hr hlk hE w ls hl
  have hx := X.1
  have hb := X.2.1
  have hl : lv_has ls 3 [(0, .ref (ad 14)), (1, .ref (ad q1)), (2, .int p2)] := hl
  have J18 : some (S, (-1 : Int32)) = some (S', r) → W p l ev ({ frames := 2, cells := 1, slots := 240, locals := 90 } : Room) s m args below meth c s.heap [] 0 0 QQ (F0 m 18 ls []) := fun hR => by
    refine lv_iconst (v := -1) hx hb dX2_add_18 (by decide) ?_
    rw [hQ]
    exact rtE X hr hlk (fun _ _ => rfl) w ⟨Nat.zero_le _, Nat.zero_le _⟩ (lf2 hR).1 rfl (lf2 hR).2 dX2_add_19
  unfold fX2_add at hR
  refine lv_aload_n hx hb dX2_add_0 rfl (lv_at hl 0 rfl) ?_
  refine gX2_size X w lfX2_31 dX2_add_1 ?_
  refine lv_iconst (v := 4) hx hb dX2_add_4 (by decide) ?_
  refine lv_icmp_ge (tgt := 18) hx hb dX2_add_5 (by decide) (fun c1 => ?_) (fun c1 => ?_)
  · rw [if_pos c1] at hR
    exact J18 hR
  rw [if_neg c1] at hR
  refine lv_iload_n hx hb dX2_add_8 rfl (lv_at hl 2 rfl) ?_
  refine lv_if_lt (tgt := 18) hx hb dX2_add_9 (by decide) (fun c2 => ?_) (fun c2 => ?_)
  · rw [if_pos c2] at hR
    exact J18 hR
  rw [if_neg c2] at hR
  refine lv_iload_n hx hb dX2_add_12 rfl (lv_at hl 2 rfl) ?_
  refine lv_aload_n hx hb dX2_add_13 rfl (lv_at hl 1 rfl) ?_
  refine lenS hq1.1 hq1.2 X w rfl dX2_add_14 ?_
  refine lv_icmp_le (tgt := 20) hx hb dX2_add_15 (by decide) (fun c3 => ?_) (fun c3 => ?_)
  rotate_left
  · rw [if_neg c3] at hR
    exact J18 hR
  rw [if_pos c3] at hR
  obtain ⟨g1, hR⟩ := ck_e hR
  obtain ⟨g2, hR⟩ := ck_e hR
  obtain ⟨g3, hR⟩ := ck_e hR
  have g2 := of_decide_eq_true g2
  have g3 := of_decide_eq_true g3
  have hi := inb_lt g1
  refine lv_aload_n hx hb dX2_add_20 rfl (lv_at hl 0 rfl) ?_
  refine gX2_laws X w lfX2_11 dX2_add_21 ?_
  refine lv_aload_n hx hb dX2_add_24 rfl (lv_at hl 0 rfl) ?_
  refine gX2_size X w lfX2_31 dX2_add_25 ?_
  refine lv_aload_n hx hb dX2_add_28 rfl (lv_at hl 1 rfl) ?_
  refine lv_iload_n hx hb dX2_add_29 rfl (lv_at hl 2 rfl) ?_
  refine va_callr (va_runS (As := [.ref (ad q1), .int p2]) (rest := [.int (gi S 14 4), .ref (ad 15)]) X (kCopy (sz := s.heap.size) hq1.1 hq1.2 g3 c2 g2) (va_cwS 2 X.2.2.2.2 (gS okCopy lmX2_34) rfl rfl rfl okCopy.2 ⟨Nat.le_of_ble_eq_true rfl, Nat.le_of_ble_eq_true rfl⟩) ⟨PRE.blind, fun U hU hWm => ⟨rfl, w.pre hU hWm.alike⟩⟩ rfl rfl hl.1 rfl (lv_room (Nat.le_of_ble_eq_true rfl)) dX2_add_30 ⟨Nat.le_of_ble_eq_true rfl, Nat.le_of_ble_eq_true rfl⟩) w.2.2.2.1 (fun q _ h => w.aa q h) w.aa (fun u a t H locs ht hvm _ hB hz1 hk1 hS => ?_)
  obtain ⟨cA, hP, hK, hD⟩ := hB
  rw [ht] at hP
  have hK := va_K.moved hvm.symm hK
  refine W.widen (k := 1) (n := 240) (Nat.le_of_ble_eq_true rfl) (Nat.le_of_ble_eq_true rfl) ?_
  have ha : (wsA dA ad S T o ++ ([(a, .inl (cA, p2.toNatClampNeg, .inl (cpy0 S q1 p2)))] : va_W))[15]? = some (ad 15, .inl (dA 15, 4, .inr (.inr (.inr (.inr (lw4 (ad 48) (ad 49) (ad 50) (ad 51))))))) := wx_l ((ws_at (by decide)).trans rfl)
  have hv : (wsA dA ad S T o ++ ([(a, .inl (cA, p2.toNatClampNeg, .inl (cpy0 S q1 p2)))] : va_W))[79]? = some (a, .inl (cA, p2.toNatClampNeg, .inl (cpy0 S q1 p2))) := wx_r ws_len
  obtain ⟨comp, c2', kA, hcomp, -, hkA, hkind, hname⟩ := arrayOverA_spec hE
  have hr15 : s.vm.findClass ("[" ++ (FieldType.array .int).toString) = some (dA 15) := (hK.2 15 _ (tx_l (ty_at (by decide)))).2
  have hrA : s.vm.findClass ("[" ++ FieldType.int.toString) = some cA := (hK.2 79 _ tx_r).2
  have e1 : c2' = dA 15 := Option.some.inj (hname.symm.trans hr15)
  have e2 : comp = cA := Option.some.inj (hcomp.symm.trans hrA)
  subst e1 e2
  obtain ⟨-, kV, hkV, comp9, hkindV⟩ := (hK.2 79 _ tx_r).1 0 (fun _ => .null)
  have h0 : ¬ (gi S 14 4) < 0 := fun z => (inb_in g1) (Or.inl z)
  refine W.aast hx hb (hP 15 _ ha) (fun q h => by cases h) (fun h => by cases h) hkA hkind rfl hkV ⟨h0, by show _ < (arrV _ _ _).slots.size; rw [arrV_size]; exact hi⟩ (hP 79 _ hv) (fun q h => by cases h) hkV (by
    show s.vm.assignable comp comp = true
    exact as_self _ _) rfl rfl dX2_add_33 fun H1 f1 f2 f3 => ?_
  have hS1 : va_S (AA ad s.heap.size) s.heap H1 (locs ++ [⟨ad 15, (gi S 14 4).toNatClampNeg⟩]) := hS.put f2 f3 (hD.2 15 _ ha)
  have w := ad_world hi w.2.2.2.2 hK hP hD f1 f3 hS1
  generalize H1 = H at w ⊢
  generalize (locs ++ [⟨ad 15, (gi S 14 4).toNatClampNeg⟩] : List Loc) = locs at w ⊢
  obtain ⟨S1, eS1, hR⟩ := lt_e hR
  rw [← eS1] at w
  have e14 : upA ad (48 + (gi S 14 4).toNatClampNeg) a 14 = ad 14 := if_neg (by omega)
  refine W.eq (g2 := F0 m 34 ls []) rfl ?_
  have hl : lv_has ls 3 [(0, .ref (upA ad (48 + (gi S 14 4).toNatClampNeg) a 14)), (1, .ref (ad q1)), (2, .int p2)] := by rw [e14]; exact hl
  have hag : ∀ k, ¬ (48 ≤ k ∧ k < 52) → upA ad (48 + (gi S 14 4).toNatClampNeg) a k = ad k := fun k hk => if_neg (by omega)
  generalize upA ad (48 + (gi S 14 4).toNatClampNeg) a = ae at w hl hag ⊢
  generalize upA dA (48 + (gi S 14 4).toNatClampNeg) comp = dB at w ⊢
  refine lv_aload_n hx hb dX2_add_34 rfl (lv_at hl 0 rfl) ?_
  refine lv_dup hx hb dX2_add_35 rfl ?_
  refine gX2_size X w lfX2_31 dX2_add_36 ?_
  refine lv_iconst (v := 1) hx hb dX2_add_39 (by decide) ?_
  refine lv_iadd hx hb dX2_add_40 ?_
  obtain ⟨S2, eS2, hR⟩ := lt_e hR
  refine pX2_size X w lfX2_31 dX2_add_41 (fun H locs w => ?_)
  rw [← eS2] at w
  refine lv_aload_n hx hb dX2_add_44 rfl (lv_at hl 0 rfl) ?_
  refine gX2_size X w lfX2_31 dX2_add_45 ?_
  refine lv_iconst (v := 1) hx hb dX2_add_48 (by decide) ?_
  refine lv_isub hx hb dX2_add_49 ?_
  rw [hQ]
  exact rtE X hr hlk hag w ⟨Nat.le_refl _, Nat.le_refl _⟩ (lf2 hR).1 rfl (lf2 hR).2 dX2_add_50

