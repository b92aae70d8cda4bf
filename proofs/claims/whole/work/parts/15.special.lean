theorem okCopy : OkS yJ7_copyOf_59c91 cJ7_copyOf_59c91 3 (some (.array .int)) 2 := ⟨⟨bg_t3 (i := 103) (by decide +kernel) rfl, liJ7, bg_t3 (i := 104) (by rfl) rfl⟩, by decide +kernel⟩
/-- a copy of a row's first n -/
def cpy0 (S : SS) (q : Nat) (n : Int32) : Nat → Int32 := va_cpy (S.1 q) (fun _ => 0) 0 0 n.toNatClampNeg
theorem wx_l {ws : va_W} {x : Nat × va_E} {k : Nat} {y : Nat × va_E} (h : ws[k]? = some y) : (ws ++ [x])[k]? = some y := by
  rw [List.getElem?_append_left (List.getElem?_eq_some_iff.mp h).1]; exact h
theorem wx_r {ws : va_W} {x : Nat × va_E} {n : Nat} (h : ws.length = n) : (ws ++ [x])[n]? = some x := by
  subst h; simp
theorem tx_l {ws : List (ClassId × FieldType)} {x y : ClassId × FieldType} {k : Nat} (h : ws[k]? = some y) : (ws ++ [x])[k]? = some y := by
  rw [List.getElem?_append_left (List.getElem?_eq_some_iff.mp h).1]; exact h
theorem ty_len {dA : Nat → ClassId} : (tysA dA).length = 79 := by simp [tysA]
theorem tx_r {dA : Nat → ClassId} {x : ClassId × FieldType} : (tysA dA ++ [x])[79]? = some x := by
  rw [List.getElem?_append_right (by rw [ty_len]; exact Nat.le_refl _), ty_len]; rfl
set_option maxHeartbeats 4000000 in
set_option maxRecDepth 100000 in
theorem kCopy {l : Launch} {D : va_G} {dA : Nat → ClassId} {ad : Nat → Nat} {t1 t2 q sz : Nat} {S T : SS} {o : Nat → Int64} {n : Int32} (hq : inK q = true) (hq2 : q < 52) (hql : aln S.2.2 q = 240) (hn : ¬ n < 0) (hn2 : n < 240) :
    Met l yJ7_copyOf_59c91 (.code yJ7_copyOf_59c91 cJ7_copyOf_59c91 3 (some (.array .int)) :: BG) { frames := 1, cells := 1, slots := 240, locals := 60 } (va_Pc [.ref (ad q), .int n] (PRE D dA ad t1 t2 S T o sz)) (va_Qr (fun _ : Unit => True) (fun _ a t => ∃ cA, va_P D vwCl (wsA dA ad S T o ++ ([(a, .inl (cA, n.toNatClampNeg, .inl (cpy0 S q n)))] : va_W)) t.heap ∧ va_K D vwCl (tysA dA ++ [(cA, .int)]) t ∧ va_D (AA ad sz) (wsA dA ad S T o ++ ([(a, .inl (cA, n.toNatClampNeg, .inl (cpy0 S q n)))] : va_W))) (AA ad sz)) 1 240 (AA ad sz) := by
  have hlt : n.toNatClampNeg < 240 := by
    have h1 : n.toInt < 240 := by simpa using Int32.lt_iff_toInt_lt.mp hn2
    have h2 : ¬ n.toInt < 0 := fun z => hn (Int32.lt_iff_toInt_lt.mpr (by simpa using z))
    show n.toInt.toNat < 240
    omega
  refine MetF (cc := cJ7_copyOf_59c91) (maxL := 3) (ret := some (.array .int)) (plainFor_of_name (by decide)) rfl ?_
  intro p ev s m args below meth c s₁ B hml hv
  obtain ⟨rfl, hP0⟩ := hv
  obtain ⟨rfl, w⟩ := hP0.wd
  have hts0 := atoms_spec (ws := .code yJ7_copyOf_59c91 cJ7_copyOf_59c91 3 (some (.array .int)) :: BG) B.pre
  have hown : s.vm.findClass RJ7 = some m.cls := findClass_of_methodNamed B.named
  have X : CallFix p m c cJ7_copyOf_59c91 3 s (#[.ref (ad q), .int n]) BG RJ7 := ⟨B.exec, B.bytes, hml, hown, fun w hw => hts0 w (List.mem_cons_of_mem _ hw)⟩
  have hr := B.returns
  have hlk := B.notSynchronized
  have hx := X.1
  have hb := X.2.1
  have hl := lv_entry [.ref (ad q), .int n] (n := 3) (Nat.le_of_ble_eq_true rfl)
  rw [lg_entry_eq]
  generalize (lg_sl [Value.ref (ad q), .int n] ++ List.replicate (3 - (lg_sl [Value.ref (ad q), .int n]).length) Slot.unset).toArray = ls at hl ⊢
  have hl : lv_has ls 3 [(0, .ref (ad q)), (1, .int n)] := hl
  refine lv_iload_n hx hb dJ7_copyOf_59c91_0 rfl (lv_at hl 1 rfl) ?_
  refine lv_aload_n hx hb dJ7_copyOf_59c91_1 rfl (lv_at hl 0 rfl) ?_
  refine lenS hq hq2 X w (v := 240) (by rw [hql]; rfl) dJ7_copyOf_59c91_2 ?_
  refine lv_icmp_ne (tgt := 14) hx hb dJ7_copyOf_59c91_3 (by decide) (fun _ => ?_) (fun h => ?_)
  · refine lv_iload_n hx hb dJ7_copyOf_59c91_14 rfl (lv_at hl 1 rfl) ?_
    refine va_newa (atype := .int) (ty := .int) (a0 := (n.toNatClampNeg, .inl (fun _ => 0))) (N' := n.toNatClampNeg) hx hb (X.2.2.2.2 _ ac_int) rfl w.1 w.2.1 w.2.2.1 w.2.2.2.1 w.2.2.2.2.1 (fun _ => rfl) hn rfl (by show n.toNatClampNeg * 4 ≤ 536870912; omega) (Nat.le_of_ble_eq_true rfl) (by show 0 + n.toNatClampNeg ≤ 240; omega) dJ7_copyOf_59c91_15 (fun a cA H hK hP hD hS => ?_)
    refine W.widen (k := 1) (n := 240) (Nat.le_of_ble_eq_true rfl) (by omega) ?_
    refine lv_astore_n (lv' := [(2, .ref a), (0, .ref (ad q)), (1, .int n)]) hx hb dJ7_copyOf_59c91_17 rfl hl (by decide) rfl (fun ls hl => ?_)
    refine lv_aload_n hx hb dJ7_copyOf_59c91_18 rfl (lv_at hl 1 rfl) ?_
    refine lv_iconst (v := 0) hx hb dJ7_copyOf_59c91_19 (by decide) ?_
    refine lv_aload_n hx hb dJ7_copyOf_59c91_20 rfl (lv_at hl 0 rfl) ?_
    refine lv_iconst (v := 0) hx hb dJ7_copyOf_59c91_21 (by decide) ?_
    refine lv_aload_n hx hb dJ7_copyOf_59c91_22 rfl (lv_at hl 1 rfl) ?_
    refine va_alen hx hb hK hP q q (v := 240) (wx_l (arS hq hq2)) (tx_l (ty_at (inK_lt hq))) (by show Int32.ofNat (aln S.2.2 q) = 240; rw [hql]; rfl) dJ7_copyOf_59c91_23 ?_
    refine lv_iload_n hx hb dJ7_copyOf_59c91_24 rfl (lv_at hl 2 rfl) ?_
    refine mnI X hl.1 lmJ7_304 ⟨Nat.le_of_ble_eq_true rfl, Nat.le_of_ble_eq_true rfl⟩ ⟨Nat.le_of_ble_eq_true rfl, Nat.le_of_ble_eq_true rfl⟩ dJ7_copyOf_59c91_25 ?_
    rw [show mn 240 n = n from if_pos hn2]
    refine va_copyi (ty := .int) (sp := 0) (dp := 0) (n := n) hx hb (by rw [hl.1]; exact X.2.2.1) X.2.2.2.1 (X.2.2.2.2 _ lmJ7_150) (X.2.2.2.2 _ (bg_t3 (i := 81) (by decide +kernel) rfl)) (X.2.2.2.2 _ (bg_t3 (i := 80) (by decide +kernel) rfl)) (X.2.2.2.2 _ (bg_t1 (i := 14) (by decide +kernel) rfl)) hK hP hD hS q 79 q 79 (wx_l (arS hq hq2)) (wx_r ws_len) ((tx_l (ty_at (inK_lt hq))).trans (by rw [inK_ty hq])) tx_r rfl (by decide) (by decide) hn (by rw [hql]; show 0 + _ ≤ 240; omega) (by show 0 + _ ≤ _; omega) (fun _ _ => rfl) (Nat.le_of_ble_eq_true rfl) (Nat.le_of_ble_eq_true rfl) dJ7_copyOf_59c91_28 (fun H locs hP hD hS => ?_)
    refine lv_aload_n hx hb dJ7_copyOf_59c91_31 rfl (lv_at hl 0 rfl) ?_
    have e1 : (wsA dA ad S T o ++ ([(a, .inl (cA, n.toNatClampNeg, .inl (fun _ => 0)))] : va_W)).set 79 (a, .inl (cA, n.toNatClampNeg, .inl (va_cpy (S.1 q) (fun _ => 0) (0 : Int32).toNatClampNeg (0 : Int32).toNatClampNeg n.toNatClampNeg))) = wsA dA ad S T o ++ ([(a, .inl (cA, n.toNatClampNeg, .inl (cpy0 S q n)))] : va_W) := by
      rw [List.set_append_right 79 _ (by rw [ws_len]; exact Nat.le_refl _), ws_len]; rfl
    have hP9 := eqP e1 hP
    have hD9 := eqD e1 hD
    exact W.aret (rt := .array .int) hx hb hr (Or.inr ⟨_, rfl⟩) (Or.inr ⟨a, rfl⟩) (fun t ht hW => ⟨⟨(), a, rfl, trivial, cA, by rw [ht]; exact hP9, va_K.moved hW.alike hK, hD9⟩, hS.F ht⟩) hS.2.2 dJ7_copyOf_59c91_32
  · exact absurd h (fun e => by rw [e] at hn2; exact absurd hn2 (by decide))

/-- the state with a law more -/
def adS (S : SS) (i q : Nat) (n : Int32) : SS := (fun k => if k = 48 + i then cpy0 S q n else S.1 k, S.2.1, fun k => if k = 48 + i then n.toNatClampNeg else S.2.2 k)
def upA {α : Type} (f : Nat → α) (k : Nat) (v : α) : Nat → α := fun z => if z = k then v else f z
/-- contract of what may make a law's row -/
def KE (l : Launch) (D : va_G) (dA : Nat → ClassId) (ad : Nat → Nat) (t1 t2 : Nat) (y : MethodName) (cc : ByteArray) (mL : Nat) (rm : Room) (av : List Value) (S T : SS) (o : Nat → Int64) (r : Int32) (S' T' : SS) : Prop :=
  ∀ sz, Met l y (.code y cc mL (some .int) :: BG) rm (va_Pc av (fun U => PRE D dA ad t1 t2 S T o sz U ∧ va_AOA .int U)) (va_Qi (fun r' (u : (Nat → Nat) × (Nat → ClassId)) => r' = r ∧ ∀ k, ¬ (48 ≤ k ∧ k < 52) → u.1 k = ad k) (fun u t => va_P D vwCl (wsA u.2 u.1 S' T' o) t.heap ∧ va_K D vwCl (tysA u.2) t ∧ va_D (AA ad sz) (wsA u.2 u.1 S' T' o)) (AA ad sz)) 1 240 (AA ad sz)
theorem PREE.blind {D : va_G} {dA : Nat → ClassId} {ad : Nat → Nat} {t1 t2 : Nat} {S T : SS} {o : Nat → Int64} {sz : Nat} {av : List Value} : FrameBlind (va_Pc av (fun U => PRE D dA ad t1 t2 S T o sz U ∧ va_AOA .int U)) := by
  intro a U g mk q
  exact ⟨q.1, (PRE.blind (av := av) a U g mk ⟨q.1, q.2.1⟩).2, va_AOA.moved (u := U) (U := U.calling g mk a) (Vm.Alike.refl U.vm) q.2.2⟩
section SPE
variable {p : Program} {l : Launch} {e : Env} {R : Room} {s : State} {m : MethodId} {args : Array Value} {below : List Frame} {meth : Method} {c : Code} {H : Heap} {locs : List Loc} {cells slots : Nat} {Q : State → Prop}
variable {cc : ByteArray} {pc nL : Nat} {ls : Array Slot} {rest : List Value} {D : va_G} {dA : Nat → ClassId} {ad : Nat → Nat} {t1 t2 : Nat} {A : Nat → Prop} {S T : SS} {o : Nat → Int64} {own : String} {index : Nat}
theorem enE {y : MethodName} {mL : Nat} {rm : Room} {av : List Value} {r : Int32} {S' T' : SS}
    (hy : plainFor y = true) (hav : (lg_sl av).length ≤ mL)
    (h : ∀ (p : Program) (ev : Env) (s : State) (m : MethodId) (args : Array Value) (below : List Frame) (meth : Method) (c : Code) (QQ : State → Prop), QQ = MQ below (va_Qi (fun r' (u : (Nat → Nat) × (Nat → ClassId)) => r' = r ∧ ∀ k, ¬ (48 ≤ k ∧ k < 52) → u.1 k = ad k) (fun u t => va_P D vwCl (wsA u.2 u.1 S' T' o) t.heap ∧ va_K D vwCl (tysA u.2) t ∧ va_D (AA ad s.heap.size) (wsA u.2 u.1 S' T' o)) (AA ad s.heap.size)) args s 1 240 (AA ad s.heap.size) → CallFix p m c cc mL s args BG y.cls → meth.sig.returnType = some .int → meth.locks = false → va_AOA .int s → WD D dA ad t1 t2 (AA ad s.heap.size) s S T o s.heap [] → ∀ ls, lv_has ls mL (lv_args 0 av) → W p l ev rm s m args below meth c s.heap [] 0 0 QQ (F0 m 0 ls [])) :
    KE l D dA ad t1 t2 y cc mL rm av S T o r S' T' := by
  intro sz
  refine MetF (cc := cc) (maxL := mL) (ret := some .int) hy rfl ?_
  intro p ev s m args below meth c s₁ B hml hv
  obtain ⟨rfl, hP, hE⟩ := hv
  obtain ⟨rfl, w⟩ := hP.wd
  have hts0 := atoms_spec (ws := .code y cc mL (some .int) :: BG) B.pre
  have hown : s.vm.findClass y.cls = some m.cls := findClass_of_methodNamed B.named
  rw [lg_entry_eq]
  exact h p ev s m _ below meth c _ rfl ⟨B.exec, B.bytes, hml, hown, fun w hw => hts0 w (List.mem_cons_of_mem _ hw)⟩ B.returns B.notSynchronized hE w _ (lv_entry av hav)
theorem rtE {dB : Nat → ClassId} {ae : Nat → Nat} {S' T' : SS} {v r : Int32} (X : CallFix p m c cc nL s args BG own) (hr : meth.sig.returnType = some .int) (hlocks : meth.locks = false) (hag : ∀ k, ¬ (48 ≤ k ∧ k < 52) → ae k = ad k) (w : WD D dB ae t1 t2 (AA ad s.heap.size) s S T o H locs) (hcs : cells ≤ 1 ∧ slots ≤ 240) (eS : S = S') (eT : T = T') (er : v = r) (hdg : decode cc pc = .ok (.ireturn, 1)) :
    W p l e R s m args below meth c H locs cells slots (MQ below (va_Qi (fun r' (u : (Nat → Nat) × (Nat → ClassId)) => r' = r ∧ ∀ k, ¬ (48 ≤ k ∧ k < 52) → u.1 k = ad k) (fun u t => va_P D vwCl (wsA u.2 u.1 S' T' o) t.heap ∧ va_K D vwCl (tysA u.2) t ∧ va_D (AA ad s.heap.size) (wsA u.2 u.1 S' T' o)) (AA ad s.heap.size)) args s 1 240 (AA ad s.heap.size)) (F0 m pc ls [.int v]) := by
  subst eS eT er
  refine W.widen hcs.1 hcs.2 ?_
  exact W.iret X.1 X.2.1 hr (fun t ht hW => ⟨⟨v, (ae, dB), rfl, ⟨rfl, hag⟩, by rw [ht]; exact w.2.1, va_K.moved hW.alike w.1, w.2.2.1⟩, w.2.2.2.1.F ht⟩) w.2.2.2.1.2.2 hdg
theorem cVE {y : MethodName} {C : String} {TT : u_T} {N ci k n mL : Nat} {bytes : ByteArray} {fs : List Value} {r : Int32} {rm : Room} {As st0 : List Value} {S' T' : SS} (X : CallFix p m c cc nL s args BG own) (hls : ls.size = nL) (w : WD D dA ad t1 t2 A s S T o H locs) (hE : va_AOA .int s) (ok : OkV C y bytes mL (some .int) n) (he : (wsA dA ad S T o)[k]? = some (ad k, .inr (ci, fs))) (hc : vwCl[ci]? = some (C, TT, N)) (hlink : Cond.methodLink own index y ∈ BG) (hM : KE l D dA ad t1 t2 y bytes mL rm (.ref (ad k) :: As) S T o r S' T') (hR : rm.frames + 1 ≤ R.frames ∧ 8 + (mL + 11) + rm.locals ≤ R.locals) (hrc : rm.cells = 1 ∧ rm.slots = 240) (hcl : cells + 1 ≤ R.cells ∧ slots + 240 ≤ R.slots) (hn : As.length = n) (hst : st0 = As.reverse ++ .ref (ad k) :: rest) (hW : (rest.map fun v => v.category).sum ≤ 8) (hdg : decode cc pc = .ok (.invokevirtual index, 3))
    (kk : ∀ (ae : Nat → Nat) (dB : Nat → ClassId) (H1 : Heap) (locs1 : List Loc), (∀ k, ¬ (48 ≤ k ∧ k < 52) → ae k = ad k) → WD D dB ae t1 t2 A s S' T' o H1 locs1 → W p l e R s m args below meth c H1 locs1 (cells + 1) (slots + 240) Q (F0 m (pc + 3) ls (.int r :: rest))) : W p l e R s m args below meth c H locs cells slots Q (F0 m pc ls st0) := by
  subst hst
  refine va_calli (va_runV (As := As) (rest := rest) X (hM H.size) (cwV n X.2.2.2.2 (gV ok hlink) rfl hrc.1 hrc.2 ok.2 hR) ⟨PREE.blind, va_recv w.1 w.2.1 hc he, fun U hU hWm => ⟨rfl, w.pre hU hWm.alike, va_AOA.moved hWm.alike hE⟩⟩ rfl hn hls rfl (lv_room hW) hdg hcl) w.2.2.2.1 (fun q _ h => w.aa q h) w.aa (fun r1 u t H1 locs1 ht hvm hp hB hz1 hk1 hS => ?_)
  obtain ⟨rfl, hag⟩ := hp
  refine kk u.1 u.2 H1 locs1 hag ⟨va_K.moved hvm.symm hB.2.1, by rw [← ht]; exact hB.1, ⟨hB.2.2.1, fun k q hk => w.aa _ (hB.2.2.2 k q hk)⟩, hS, w.2.2.2.2.1, w.2.2.2.2.2⟩
end SPE

