theorem lt_t1 {i : Nat} {w : Cond} (h : tables_1_1[i]? = some w) : w ∈ lw_tbl := List.mem_append_right _ (by unfold tables_1; exact List.mem_append_left _ (List.mem_of_getElem? h))
theorem lt_t2 {i : Nat} {w : Cond} (h : tables_1_2[i]? = some w) : w ∈ lw_tbl := List.mem_append_right _ (by unfold tables_1; exact List.mem_append_right _ (List.mem_append_left _ (List.mem_of_getElem? h)))
theorem lt_t3 {i : Nat} {w : Cond} (h : tables_1_3[i]? = some w) : w ∈ lw_tbl := List.mem_append_right _ (by unfold tables_1; exact List.mem_append_right _ (List.mem_append_right _ (List.mem_append_left _ (List.mem_of_getElem? h))))
theorem lt_t4 {i : Nat} {w : Cond} (h : tables_1_4[i]? = some w) : w ∈ lw_tbl := List.mem_append_right _ (by unfold tables_1; exact List.mem_append_right _ (List.mem_append_right _ (List.mem_append_right _ (List.mem_append_left _ (List.mem_of_getElem? h)))))
theorem lt_t5 {i : Nat} {w : Cond} (h : tables_1_5[i]? = some w) : w ∈ lw_tbl := List.mem_append_right _ (by unfold tables_1; exact List.mem_append_right _ (List.mem_append_right _ (List.mem_append_right _ (List.mem_append_right _ (List.mem_append_left _ (List.mem_of_getElem? h))))))
theorem lt_t6 {i : Nat} {w : Cond} (h : tables_1_6[i]? = some w) : w ∈ lw_tbl := List.mem_append_right _ (by unfold tables_1; exact List.mem_append_right _ (List.mem_append_right _ (List.mem_append_right _ (List.mem_append_right _ (List.mem_append_right _ (List.mem_append_left _ (List.mem_of_getElem? h)))))))
theorem lt_t7 {i : Nat} {w : Cond} (h : tables_1_7[i]? = some w) : w ∈ lw_tbl := List.mem_append_right _ (by unfold tables_1; exact List.mem_append_right _ (List.mem_append_right _ (List.mem_append_right _ (List.mem_append_right _ (List.mem_append_right _ (List.mem_append_right _ (List.mem_append_left _ (List.mem_of_getElem? h))))))))
theorem lt_t8 {i : Nat} {w : Cond} (h : tables_1_8[i]? = some w) : w ∈ lw_tbl := List.mem_append_right _ (by unfold tables_1; exact List.mem_append_right _ (List.mem_append_right _ (List.mem_append_right _ (List.mem_append_right _ (List.mem_append_right _ (List.mem_append_right _ (List.mem_append_right _ (List.mem_of_getElem? h))))))))
theorem ex_str {args : Array Value} {s : State} {own cls : String} {k : Nat} (h : (Cond.exactly (.string own k) cls).before args s = true) : ∃ a, (Term.string own k).eval args s none [] s = some (.ref a) := by
  obtain ⟨a, c, cell, k9, h1, -⟩ := Cond.exactly_spec h
  exact ⟨a, h1⟩
set_option maxHeartbeats 40000000 in
set_option maxRecDepth 100000 in
/-- from the entry: the two systems are made, then the loop -/
theorem start_of {p : Program} {e : Env} {s : State} {m : MethodId} {below : List Frame} {meth : Method} {c : Code} (l : Launch) (hflags : l.flags = flags0) {b L N : Nat} {xs : Nat → Int32} {Rel : SS → SS → Prop} (hsim : SIM N Rel) (hrel : Rel S0 T0) (hL : L ≤ 3072) (C0 : lw_At p s m meth c b L xs) : W p l e room_1 s m #[Value.ref b] below meth c s.heap [] 0 0 (lw_Z below #[Value.ref b] s) (entryFrame m ([Value.ref b] : List Value).toArray 7) := by
  obtain ⟨hx, hb, hr, hml, hown, hts, hX, hbl, hlocks, hgv⟩ := id C0
  have hst : l.stackTraces = false := by unfold Launch.stackTraces; rw [hflags]; decide +kernel
  have X : CallFix p m c code 7 s #[Value.ref b] BG RL := ⟨hx, hb, hml, hown, fun w h => hts w (bg_in w h)⟩
  obtain ⟨A, hAe⟩ : ∃ A : Nat → Prop, A = fun q : Nat => s.heap.size ≤ q := ⟨_, rfl⟩
  have hA : ∀ q : Nat, s.heap.size ≤ q → A q := fun q h => by rw [hAe]; exact h
  have hA0 : ∀ a : Nat, a < s.heap.size → ¬ A a := fun a h => by rw [hAe]; exact Nat.not_le.mpr h
  have hgs := flat_of_before _ hgv
  have hE : va_AOA .int s := va_AOA.of (hts _ (lt_t1 (i := 150) (by decide +kernel)))
  have hNW : NW s := ⟨hE, va_Nw.of rfl (hts _ (lt_t1 (i := 32) (by decide +kernel))), va_Nw.of rfl (hts _ (lt_t1 (i := 52) (by decide +kernel))), va_Nw.of rfl (hts _ (lt_t1 (i := 116) (by decide +kernel))), va_Nw.of rfl (hts _ (lt_t1 (i := 174) (by decide +kernel))), va_Nw.of rfl (hts _ (lt_t1 (i := 236) (by decide +kernel))), va_Nw.of rfl (hts _ (lt_t2 (i := 50) (by decide +kernel)))⟩
  obtain ⟨sa, hsa⟩ := ex_str (hgs (.exactly (.string "LooseEnds" 177) "java/lang/String") (by decide +kernel))
  have hEX : EXT sa A s s.heap := ⟨⟨va_Nw.of rfl (hts _ (lt_t5 (i := 157) (by decide +kernel))), va_Nw.of rfl (hts _ (lt_t5 (i := 159) (by decide +kernel))), va_Nw.of rfl (hts _ (lt_t5 (i := 161) (by decide +kernel))), va_Nw.of rfl (hts _ (lt_t5 (i := 163) (by decide +kernel)))⟩, vk_R.of (hts _ (lt_t5 (i := 194) (by decide +kernel))) hsa, vx_Zqof (hts _ (lt_t5 (i := 182) (by decide +kernel))) (hts _ (lt_t1 (i := 17) (by decide +kernel))) (hgs _ (by decide +kernel)) hA0, vx_Zqof (hts _ (lt_t5 (i := 184) (by decide +kernel))) (hts _ (lt_t1 (i := 17) (by decide +kernel))) (hgs _ (by decide +kernel)) hA0⟩
  obtain ⟨t1, hvt1, hTt1⟩ := va_Tof (args := #[Value.ref b]) (s := s) (tm := .static "LooseEnds$MillReader" "LEAST" "[I") (ty := .int) (N := 7) (f := fLs) (A := A) (by decide) (hgs _ (by decide +kernel)) (va_eqt (z := 7) (hgs _ (by decide +kernel))) (fun j hj => by
    match j, hj with
    | 0, _ => exact va_eqt (hgs _ (by decide +kernel : Cond.eq (.elem (.static "LooseEnds$MillReader" "LEAST" "[I") (.int 0)) (.int 0) ∈ flatC (Jvm.Cond.and given_1 narrow_1)))
    | 1, _ => exact va_eqt (hgs _ (by decide +kernel : Cond.eq (.elem (.static "LooseEnds$MillReader" "LEAST" "[I") (.int 1)) (.int 0) ∈ flatC (Jvm.Cond.and given_1 narrow_1)))
    | 2, _ => exact va_eqt (hgs _ (by decide +kernel : Cond.eq (.elem (.static "LooseEnds$MillReader" "LEAST" "[I") (.int 2)) (.int 1) ∈ flatC (Jvm.Cond.and given_1 narrow_1)))
    | 3, _ => exact va_eqt (hgs _ (by decide +kernel : Cond.eq (.elem (.static "LooseEnds$MillReader" "LEAST" "[I") (.int 3)) (.int 0) ∈ flatC (Jvm.Cond.and given_1 narrow_1)))
    | 4, _ => exact va_eqt (hgs _ (by decide +kernel : Cond.eq (.elem (.static "LooseEnds$MillReader" "LEAST" "[I") (.int 4)) (.int 0) ∈ flatC (Jvm.Cond.and given_1 narrow_1)))
    | 5, _ => exact va_eqt (hgs _ (by decide +kernel : Cond.eq (.elem (.static "LooseEnds$MillReader" "LEAST" "[I") (.int 5)) (.int 1) ∈ flatC (Jvm.Cond.and given_1 narrow_1)))
    | 6, _ => exact va_eqt (hgs _ (by decide +kernel : Cond.eq (.elem (.static "LooseEnds$MillReader" "LEAST" "[I") (.int 6)) (.int 1) ∈ flatC (Jvm.Cond.and given_1 narrow_1)))
    | j + 7, hj => exact absurd hj (by omega)) hA0
  have hZt1 := va_Zof (args := #[Value.ref b]) (A := A) (hts _ (lt_t2 (i := 219) (by decide +kernel))) (hts _ (lt_t1 (i := 4) (by decide +kernel))) hvt1 hA0
  obtain ⟨t2, hvt2, hTt2⟩ := va_Tof (args := #[Value.ref b]) (s := s) (tm := .static "LooseEnds$MillReader" "MOST" "[I") (ty := .int) (N := 7) (f := fMs) (A := A) (by decide) (hgs _ (by decide +kernel)) (va_eqt (z := 7) (hgs _ (by decide +kernel))) (fun j hj => by
    match j, hj with
    | 0, _ => exact va_eqt (hgs _ (by decide +kernel : Cond.eq (.elem (.static "LooseEnds$MillReader" "MOST" "[I") (.int 0)) (.int 9) ∈ flatC (Jvm.Cond.and given_1 narrow_1)))
    | 1, _ => exact va_eqt (hgs _ (by decide +kernel : Cond.eq (.elem (.static "LooseEnds$MillReader" "MOST" "[I") (.int 1)) (.int 9) ∈ flatC (Jvm.Cond.and given_1 narrow_1)))
    | 2, _ => exact va_eqt (hgs _ (by decide +kernel : Cond.eq (.elem (.static "LooseEnds$MillReader" "MOST" "[I") (.int 2)) (.int 9) ∈ flatC (Jvm.Cond.and given_1 narrow_1)))
    | 3, _ => exact va_eqt (hgs _ (by decide +kernel : Cond.eq (.elem (.static "LooseEnds$MillReader" "MOST" "[I") (.int 3)) (.int 99) ∈ flatC (Jvm.Cond.and given_1 narrow_1)))
    | 4, _ => exact va_eqt (hgs _ (by decide +kernel : Cond.eq (.elem (.static "LooseEnds$MillReader" "MOST" "[I") (.int 4)) (.int 20) ∈ flatC (Jvm.Cond.and given_1 narrow_1)))
    | 5, _ => exact va_eqt (hgs _ (by decide +kernel : Cond.eq (.elem (.static "LooseEnds$MillReader" "MOST" "[I") (.int 5)) (.int 6) ∈ flatC (Jvm.Cond.and given_1 narrow_1)))
    | 6, _ => exact va_eqt (hgs _ (by decide +kernel : Cond.eq (.elem (.static "LooseEnds$MillReader" "MOST" "[I") (.int 6)) (.int 20) ∈ flatC (Jvm.Cond.and given_1 narrow_1)))
    | j + 7, hj => exact absurd hj (by omega)) hA0
  have hZt2 := va_Zof (args := #[Value.ref b]) (A := A) (hts _ (lt_t2 (i := 236) (by decide +kernel))) (hts _ (lt_t1 (i := 4) (by decide +kernel))) hvt2 hA0
  have hSTA : STA t1 t2 A s s.heap := ⟨⟨hZt1, hTt1⟩, hZt2, hTt2⟩
  obtain ⟨cc0, ii0, hKn0⟩ := u_known (C := RX0) (T := TX0) (N := 12) (n := 12) X.2.2.2.2 inBX0 (X.2.2.2.2 _ inX0)
  obtain ⟨cc1, ii1, hKn1⟩ := u_known (C := RX1) (T := TX1) (N := 5) (n := 5) X.2.2.2.2 inBX1 (X.2.2.2.2 _ inX1)
  obtain ⟨cc2, ii2, hKn2⟩ := u_known (C := RX2) (T := TX2) (N := 6) (n := 6) X.2.2.2.2 inBX2 (X.2.2.2.2 _ inX2)
  obtain ⟨cc3, ii3, hKn3⟩ := u_known (C := RX3) (T := TX3) (N := 3) (n := 3) X.2.2.2.2 inBX3 (X.2.2.2.2 _ inX3)
  obtain ⟨cc4, ii4, hKn4⟩ := u_known (C := RX4) (T := TX4) (N := 7) (n := 7) X.2.2.2.2 inBX4 (X.2.2.2.2 _ inX4)
  obtain ⟨cc5, ii5, hKn5⟩ := u_known (C := RX5) (T := TX5) (N := 8) (n := 8) X.2.2.2.2 inBX5 (X.2.2.2.2 _ inX5)
  obtain ⟨cc6, ii6, hKn6⟩ := u_known (C := RX6) (T := TX6) (N := 2) (n := 2) X.2.2.2.2 inBX6 (X.2.2.2.2 _ inX6)
  obtain ⟨cc7, ii7, hKn7⟩ := u_known (C := RX7) (T := TX7) (N := 6) (n := 6) X.2.2.2.2 inBX7 (X.2.2.2.2 _ inX7)
  obtain ⟨cc8, ii8, hKn8⟩ := u_known (C := RX8) (T := TX8) (N := 10) (n := 10) X.2.2.2.2 inBX8 (X.2.2.2.2 _ inX8)
  obtain ⟨cc9, ii9, hKn9⟩ := u_known (C := RX9) (T := TX9) (N := 3) (n := 3) X.2.2.2.2 inBX9 (X.2.2.2.2 _ inX9)
  obtain ⟨cc10, ii10, hKn10⟩ := u_known (C := RX10) (T := TX10) (N := 4) (n := 4) X.2.2.2.2 inBX10 (X.2.2.2.2 _ inX10)
  obtain ⟨cc11, ii11, hKn11⟩ := u_known (C := RX11) (T := TX11) (N := 13) (n := 13) X.2.2.2.2 inBX11 (X.2.2.2.2 _ inX11)
  obtain ⟨cc12, ii12, hKn12⟩ := u_known (C := RX12) (T := TX12) (N := 45) (n := 45) X.2.2.2.2 inBX12 (X.2.2.2.2 _ inX12)
  obtain ⟨D, hKc⟩ : ∃ D : va_G, ∀ (k : Nat) (q : vw_C), vwCl[k]? = some q → u_Kn s q.1 q.2.1 q.2.2 (D.1 k) (D.2 k) := by
    refine ⟨(fun k => if k = 0 then cc0 else if k = 1 then cc1 else if k = 2 then cc2 else if k = 3 then cc3 else if k = 4 then cc4 else if k = 5 then cc5 else if k = 6 then cc6 else if k = 7 then cc7 else if k = 8 then cc8 else if k = 9 then cc9 else if k = 10 then cc10 else if k = 11 then cc11 else cc12, fun k => if k = 0 then ii0 else if k = 1 then ii1 else if k = 2 then ii2 else if k = 3 then ii3 else if k = 4 then ii4 else if k = 5 then ii5 else if k = 6 then ii6 else if k = 7 then ii7 else if k = 8 then ii8 else if k = 9 then ii9 else if k = 10 then ii10 else if k = 11 then ii11 else ii12), ?_⟩
    intro k q hq
    match k, hq with
    | 0, hq => cases hq; exact hKn0
    | 1, hq => cases hq; exact hKn1
    | 2, hq => cases hq; exact hKn2
    | 3, hq => cases hq; exact hKn3
    | 4, hq => cases hq; exact hKn4
    | 5, hq => cases hq; exact hKn5
    | 6, hq => cases hq; exact hKn6
    | 7, hq => cases hq; exact hKn7
    | 8, hq => cases hq; exact hKn8
    | 9, hq => cases hq; exact hKn9
    | 10, hq => cases hq; exact hKn10
    | 11, hq => cases hq; exact hKn11
    | 12, hq => cases hq; exact hKn12
    | k + 13, hq => simp [vwCl] at hq
  have hS : va_S A s.heap s.heap [] := va_S.rf
  have hK : va_K D vwCl [] s := ⟨hKc, fun k q h => by simp at h⟩
  have hP : va_P D vwCl [] s.heap := fun k q h => by simp at h
  have hD : va_D A [] := ⟨fun i j p q h => by simp at h, fun k q h => by simp at h⟩
  have hl := lv_entry ([.ref b]) (n := 7) (Nat.le_of_ble_eq_true rfl)
  rw [lg_entry_eq]
  generalize (lg_sl ([.ref b]) ++ List.replicate (7 - (lg_sl ([.ref b])).length) Slot.unset).toArray = ls at hl ⊢
  have hl : lv_has ls 7 [(0, .ref b)] := hl
  refine va_new (ci := 11) (fs := [.null, .null, .null, .null, .null, .null, .null, .null, .null, .null, .null, .null, .int 0]) (C := RX11) (T := TX11) (N := 13) hx hb X.2.2.2.2 inBX11 tyX11 tyX11_ok X.2.2.2.1 (X.2.2.2.2 _ clL_8) (X.2.2.2.2 _ inX11) (X.2.2.2.2 _ liX11) hK hP hD hS hA rfl (fun j hj => nw_X11 j hj) (Nat.le_of_ble_eq_true rfl) (Nat.le_of_ble_eq_true rfl) dL_law_0 (fun q0 H hP hD hS => ?_)
  refine W.widen (k := 1) (n := 13) (Nat.le_of_ble_eq_true rfl) (Nat.le_of_ble_eq_true rfl) ?_
  refine lv_dup hx hb dL_law_3 rfl ?_
  have hP : va_P D vwCl (([] : va_W) ++ [(q0, .inr (11, [.null, .null, .null, .null, .null, .null, .null, .null, .null, .null, .null, .null, .int 0]))]) H := hP
  have hD : va_D A (([] : va_W) ++ [(q0, .inr (11, [.null, .null, .null, .null, .null, .null, .null, .null, .null, .null, .null, .null, .int 0]))]) := hD
  refine cII (q := q0) (As := []) (rest := [.ref q0]) X hl.1 hNW hK hP hD hS hA koX11_init lmL_15 (qX11 q0) ⟨Nat.le_of_ble_eq_true rfl, Nat.le_of_ble_eq_true rfl⟩ rfl rfl ⟨Nat.le_of_ble_eq_true rfl, Nat.le_of_ble_eq_true rfl⟩ rfl rfl (Nat.le_of_ble_eq_true rfl) dL_law_4 (fun n4 k4 H locs hP hD hS hK => ?_)
  refine W.widen (k := 52) (n := 4000) (Nat.le_of_ble_eq_true rfl) (Nat.le_of_ble_eq_true rfl) ?_
  refine lv_astore_n (lv' := [(1, .ref q0), (0, .ref b)]) hx hb dL_law_7 rfl hl (by decide) rfl (fun ls hl => ?_)
  refine va_new (ci := 12) (fs := [.int 0, .null, .int 0, .int 0, .int 0, .int 0, .null, .null, .null, .null, .null, .null, .null, .int 0, .int 0, .null, .null, .null, .null, .int 0, .null, .null, .int 0, .null, .null, .int 0, .int 0, .null, .int 0, .long 0, .null, .int 0, .int 0, .int 0, .null, .null, .null, .int 0, .int 0, .null, .null, .null, .int 0, .null, .int 0]) (C := RX12) (T := TX12) (N := 45) hx hb X.2.2.2.2 inBX12 tyX12 tyX12_ok X.2.2.2.1 (X.2.2.2.2 _ clL_16) (X.2.2.2.2 _ inX12) (X.2.2.2.2 _ liX12) hK hP hD hS hA rfl (fun j hj => nw_X12 j hj) (Nat.le_of_ble_eq_true rfl) (Nat.le_of_ble_eq_true rfl) dL_law_8 (fun q8 H hP hD hS => ?_)
  refine W.widen (k := 53) (n := 4100) (Nat.le_of_ble_eq_true rfl) (Nat.le_of_ble_eq_true rfl) ?_
  refine lv_dup hx hb dL_law_11 rfl ?_
  refine cII (q := q8) (As := []) (rest := [.ref q8]) X hl.1 hNW hK hP hD hS hA koX12_init lmL_18 (qX12 q8) ⟨Nat.le_of_ble_eq_true rfl, Nat.le_of_ble_eq_true rfl⟩ rfl rfl ⟨Nat.le_of_ble_eq_true rfl, Nat.le_of_ble_eq_true rfl⟩ rfl rfl (Nat.le_of_ble_eq_true rfl) dL_law_12 (fun n12 k12 H locs hP hD hS hK => ?_)
  refine W.widen (k := 78) (n := 20950) (Nat.le_of_ble_eq_true rfl) (Nat.le_of_ble_eq_true rfl) ?_
  refine lv_astore_n (lv' := [(2, .ref q8), (1, .ref q0), (0, .ref b)]) hx hb dL_law_15 rfl hl (by decide) rfl (fun ls hl => ?_)
  refine lv_iconst (v := 1) hx hb dL_law_16 (by decide) ?_
  refine va_newa (atype := .long) (ty := .long) (a0 := (1, .inr (.inl (fun _ => 0)))) (N' := 1) hx hb (X.2.2.2.2 _ ac_long) rfl hK hP hD hS hA (fun _ => rfl) (by decide) (by decide) (by decide) (Nat.le_of_ble_eq_true rfl) (Nat.le_of_ble_eq_true rfl) dL_law_17 (fun q17 c17 H hK hP hD hS => ?_)
  refine W.widen (k := 79) (n := 21000) (Nat.le_of_ble_eq_true rfl) (Nat.le_of_ble_eq_true rfl) ?_
  refine lv_astore_n (lv' := [(3, .ref q17), (2, .ref q8), (1, .ref q0), (0, .ref b)]) hx hb dL_law_19 rfl hl (by decide) rfl (fun ls hl => ?_)
  refine lv_iconst (v := 0) hx hb dL_law_20 (by decide) ?_
  refine lv_istore (lv' := [(4, .int 0), (3, .ref q17), (2, .ref q8), (1, .ref q0), (0, .ref b)]) hx hb dL_law_21 hl (by decide) rfl (fun ls hl => ?_)
  have hP9 : va_P D vwCl (wMade q0 q8 q17 n4 n12 k4 k12 c17) H := hP
  have hD9 : va_D A (wMade q0 q8 q17 n4 n12 k4 k12 c17) := hD
  have hK9 : va_K D vwCl (tMade k4 k12 c17) s := hK
  have w : WD D (dAMade k4 k12 c17) (adMade q0 q8 q17 n4 n12) t1 t2 A s S0 T0 o0 H locs := by
    refine ⟨⟨hK9.1, fun k q hk => ?_⟩, fun k q hk => ?_, ⟨fun i j p q h1 h2 e => ?_, fun k q hk => ?_⟩, hS, hA, hSTA⟩
    · have h9 : k < 79 := by
        have := (List.getElem?_eq_some_iff.mp hk).1
        rwa [ty_len] at this
      rw [ty_at h9] at hk
      cases hk
      exact hK9.2 _ _ (made_ty k4 k12 c17 k h9)
    · have h9 := (ws_key hk).1
      rw [ws_at h9] at hk
      cases hk
      exact hP9 _ _ (made_at q0 q8 q17 n4 n12 k4 k12 c17 k h9)
    · have g1 := ws_key h1
      have g2 := ws_key h2
      rw [g1.2, g2.2] at e
      exact plG_inj i g1.1 j g2.1 (hD9.1 _ _ _ _ (made_at q0 q8 q17 n4 n12 k4 k12 c17 i g1.1) (made_at q0 q8 q17 n4 n12 k4 k12 c17 j g2.1) e)
    · have g1 := ws_key hk
      rw [g1.2]
      exact hD9.2 _ _ (made_at q0 q8 q17 n4 n12 k4 k12 c17 k g1.1)
  exact law_loop hst hsim hL C0 hE hAe hEX (L + 1) 0 0 (by omega) (by omega) rfl _ _ _ _ _ _ _ _ w hrel (lv_sub hl [4, 3, 2, 1, 0] rfl)
