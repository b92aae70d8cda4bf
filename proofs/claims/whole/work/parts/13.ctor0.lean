def va_AOA (t : FieldType) (U : State) : Prop := (Cond.arrayOver (.array t)).before #[] U = true
theorem va_AOA.of {t : FieldType} {A : Array Value} {U : State} (h : (Cond.arrayOver (.array t)).before A U = true) : va_AOA t U := h
theorem va_AOA.use {t : FieldType} {A : Array Value} {U : State} (h : va_AOA t U) : (Cond.arrayOver (.array t)).before A U = true := h
theorem va_AOA.moved {t : FieldType} {u U : State} (hvm : u.vm.Alike U.vm) (h : va_AOA t u) : va_AOA t U := by
  obtain ⟨comp, c, k, h1, h2, h3, h4, h5⟩ := arrayOverA_spec h
  obtain ⟨k1, hk1, he⟩ := hvm.2.2 _ _ h3
  have hi : (U.vm.classes.findIdx? fun (x : Class) => match x.kind with | .array component _ => component == comp | _ => false) = some c := by
    have e1 := va_idx_bare U.vm comp
    have e2 := va_idx_bare u.vm comp
    have e3 : U.vm.bare = u.vm.bare := by first | exact hvm.bare_eq | exact hvm.bare_eq.symm
    rw [e3] at e1
    exact e1.symm.trans (e2.trans h2)
  have hkind : k1.kind = .array comp (.array t) := by rw [he]; exact h4
  have f1 : U.vm.findClass (FieldType.array t).toString = some comp := by rw [hvm.findClass]; exact h1
  have f2 : U.vm.findClass ("[" ++ (FieldType.array t).toString) = some c := by rw [hvm.findClass]; exact h5
  unfold va_AOA Cond.before Cond.holds
  simp only [Cond.value]
  rw [f1, Option.bind_some]
  refine (congrArg (fun o : Option Nat => (o.bind (fun c => (U.vm.classes[c]?).map fun (k : Class) => match k.kind with | .array _ ty => decide (ty = FieldType.array t) && decide (U.vm.findClass ("[" ++ (FieldType.array t).toString) = some c) | _ => false) == some true)) hi).trans ?_
  simp [hk1, hkind, f2]
/-- words of the tables that constructors take beside BG -/
def NW (U : State) : Prop := va_AOA .int U ∧ va_Nw (.methodLinkNest RX11 9 yX9_init "LooseEnds") U ∧ va_Nw (.methodLinkNest RX11 18 yX5_init "LooseEnds") U ∧ va_Nw (.methodLinkNest RX6 11 yX5_init "LooseEnds") U ∧ va_Nw (.methodLinkNest RX11 50 yX8_init "LooseEnds") U ∧ va_Nw (.methodLinkNest RX11 57 yX4_init "LooseEnds") U ∧ va_Nw (.methodLinkNest RX0 11 yX8_init "LooseEnds") U
theorem NW.warm {s U : State} (hW : s.WarmedH U.vm) (h : NW s) : NW U := ⟨va_AOA.moved hW.alike h.1, va_Nw.warmM hW h.2.1, va_Nw.warmM hW h.2.2.1, va_Nw.warmM hW h.2.2.2.1, va_Nw.warmM hW h.2.2.2.2.1, va_Nw.warmM hW h.2.2.2.2.2.1, va_Nw.warmM hW h.2.2.2.2.2.2⟩
theorem NW.call {U : State} {g : JFrame} {mk : MethodId} {a : Array Value} (h : NW U) : NW (U.calling g mk a) := ⟨va_AOA.moved (u := U) (U := U.calling g mk a) (Vm.Alike.refl U.vm) h.1, va_Nw.same rfl rfl h.2.1, va_Nw.same rfl rfl h.2.2.1, va_Nw.same rfl rfl h.2.2.2.1, va_Nw.same rfl rfl h.2.2.2.2.1, va_Nw.same rfl rfl h.2.2.2.2.2.1, va_Nw.same rfl rfl h.2.2.2.2.2.2⟩
/-- a constructor: its own cell and new ones, nothing else is known or touched -/
def KC (l : Launch) (D : va_G) (y : MethodName) (cc : ByteArray) (mL : Nat) (rm : Room) (av : List Value) (h0 : Nat) (e0 : va_E) (E : (Nat → Nat) → va_E) (R : (Nat → Nat) → (Nat → ClassId) → va_W) (ty : (Nat → ClassId) → List (ClassId × FieldType)) (mc ms : Nat) : Prop :=
  ∀ sz, Met l y (.code y cc mL none :: BG) rm (va_Pc av (fun U => U.heap.size = sz ∧ va_P D vwCl [(h0, e0)] U.heap ∧ va_K D vwCl [] U ∧ va_D (fun _ => True) [(h0, e0)] ∧ NW U)) (va_Qv (fun _ : Unit => True) (fun _ t => ∃ (ad : Nat → Nat) (dA : Nat → ClassId), va_P D vwCl ((h0, E ad) :: R ad dA) t.heap ∧ va_K D vwCl (ty dA) t ∧ va_D (va_A [(h0, e0)] sz) ((h0, E ad) :: R ad dA)) (va_A [(h0, e0)] sz)) mc ms (va_A [(h0, e0)] sz)
theorem kc_ {l : Launch} {D : va_G} {y : MethodName} {cc : ByteArray} {mL : Nat} {rm : Room} {av : List Value} {h0 : Nat} {e0 : va_E} {E : (Nat → Nat) → va_E} {R : (Nat → Nat) → (Nat → ClassId) → va_W} {ty : (Nat → ClassId) → List (ClassId × FieldType)} {mc ms : Nat} (hy : plainFor y = true) (hav : (lg_sl av).length ≤ mL)
    (h : ∀ (p : Program) (ev : Env) (s : State) (m : MethodId) (args : Array Value) (below : List Frame) (meth : Method) (c : Code), CallFix p m c cc mL s args BG y.cls → meth.sig.returnType = none → meth.locks = false → meth.name = y.name → NW s → va_K D vwCl [] s → va_P D vwCl [(h0, e0)] s.heap → ∀ A : Nat → Prop, A = va_A [(h0, e0)] s.heap.size → (∀ q : Nat, s.heap.size ≤ q → A q) → va_D A [(h0, e0)] → va_S A s.heap s.heap [] → ∀ ls, lv_has ls mL (lv_args 0 av) →
      W p l ev rm s m args below meth c s.heap [] 0 0 (MQ below (va_Qv (fun _ : Unit => True) (fun _ t => ∃ (ad : Nat → Nat) (dA : Nat → ClassId), va_P D vwCl ((h0, E ad) :: R ad dA) t.heap ∧ va_K D vwCl (ty dA) t ∧ va_D A ((h0, E ad) :: R ad dA)) A) args s mc ms A) (F0 m 0 ls [])) :
    KC l D y cc mL rm av h0 e0 E R ty mc ms := by
  intro sz
  refine MetF (cc := cc) (maxL := mL) (ret := none) hy rfl ?_
  intro p ev s m args below meth c s₁ B hml hv
  obtain ⟨rfl, hsz, hP, hK, hD0, hNW⟩ := hv
  subst hsz
  have hts0 := atoms_spec (ws := .code y cc mL none :: BG) B.pre
  have hown : s.vm.findClass y.cls = some m.cls := findClass_of_methodNamed B.named
  rw [lg_entry_eq]
  exact h p ev s m _ below meth c ⟨B.exec, B.bytes, hml, hown, fun w hw => hts0 w (List.mem_cons_of_mem _ hw)⟩ B.returns B.notSynchronized (name_of_methodNamed B.named B.method).1 hNW hK hP _ rfl (fun q h => Or.inr h) hD0.self va_S.rf _ (lv_entry av hav)
section CTR
variable {p : Program} {l : Launch} {e : Env} {R : Room} {s : State} {m : MethodId} {args : Array Value} {below : List Frame} {meth : Method} {c : Code} {H : Heap} {locs : List Loc} {cells slots : Nat} {Q : State → Prop}
variable {cc : ByteArray} {pc nL : Nat} {ls : Array Slot} {rest : List Value} {D : va_G} {A : Nat → Prop} {own : String} {index : Nat}
theorem kc_v {h0 : Nat} {E : (Nat → Nat) → va_E} {RR : (Nat → Nat) → (Nat → ClassId) → va_W} {ty : (Nat → ClassId) → List (ClassId × FieldType)} {mc ms : Nat} {e0 : va_E} {ws : va_W} {tys : List (ClassId × FieldType)} (X : CallFix p m c cc nL s args BG own) (hr : meth.sig.returnType = none) (hlocks : meth.locks = false) (hAe : A = va_A [(h0, e0)] s.heap.size) (hK : va_K D vwCl tys s) (hP : va_P D vwCl ws H) (hD : va_D A ws) (hS : va_S A s.heap H locs) (ad : Nat → Nat) (dA : Nat → ClassId) (he : ws = (h0, E ad) :: RR ad dA) (ht : tys = ty dA) (hdg : decode cc pc = .ok (.return_, 1)) :
    W p l e R s m args below meth c H locs mc ms (MQ below (va_Qv (fun _ : Unit => True) (fun _ t => ∃ (ad : Nat → Nat) (dA : Nat → ClassId), va_P D vwCl ((h0, E ad) :: RR ad dA) t.heap ∧ va_K D vwCl (ty dA) t ∧ va_D A ((h0, E ad) :: RR ad dA)) A) args s mc ms A) (F0 m pc ls []) := by
  subst he ht
  exact W.vret X.1 X.2.1 hr (fun t ht hW => ⟨⟨(), rfl, trivial, ad, dA, by rw [ht]; exact hP, va_K.moved hW.alike hK, hD⟩, hS.F ht⟩) hS.2.2 hdg
def OkI (y : MethodName) (cc : ByteArray) (mL n : Nat) : Prop := (Cond.instanceMethod y ∈ BG ∧ Cond.initialized y.cls ∈ BG ∧ Cond.code y cc mL none ∈ BG) ∧ y.name = "<init>" ∧ (y.cls ≠ "java/lang/invoke/MethodHandle" ∧ y.cls ≠ "java/lang/invoke/VarHandle" ∧ (parseMethodDescriptor y.desc).map (fun d => d.parameters.length) = some n)
theorem gI {y : MethodName} {bytes : ByteArray} {mL n : Nat} (ok : OkI y bytes mL n) : GoodIn BG (.code y bytes mL none :: BG) := by
  intro w hw
  rcases List.mem_cons.mp hw with rfl | hw
  · exact bg_good _ ok.1.2.2
  · exact bg_good _ hw
theorem ki_join {pre : va_W} {q sz : Nat} {e0 E0 : va_E} {R0 : va_W} {H1 : Heap} (hP : va_P D vwCl (pre ++ [(q, e0)]) H) (hD : va_D A (pre ++ [(q, e0)])) (hA : ∀ q, sz ≤ q → A q) (hsz : sz ≤ H.size)
    (hk : ∀ z : Nat, z < H.size → ¬ va_A [(q, e0)] H.size z → H1[z]? = H[z]?) (hP1 : va_P D vwCl ((q, E0) :: R0) H1) (hD1 : va_D (va_A [(q, e0)] H.size) ((q, E0) :: R0)) : va_P D vwCl (pre ++ (q, E0) :: R0) H1 ∧ va_D A (pre ++ (q, E0) :: R0) := by
  have hpl : ∀ (k : Nat) (z : Nat × va_E), pre[k]? = some z → (pre ++ [(q, e0)])[k]? = some z := fun k z h => by
    rw [List.getElem?_append_left (List.getElem?_eq_some_iff.mp h).1]; exact h
  have hq : (pre ++ [(q, e0)])[pre.length]? = some (q, e0) := by simp
  have hne : ∀ (k : Nat) (z : Nat × va_E), pre[k]? = some z → z.1 < H.size ∧ z.1 ≠ q := fun k z h => by
    refine ⟨(hP k z (hpl k z h)).lt, fun e => ?_⟩
    have := hD.1 k pre.length z _ (hpl k z h) hq e
    have h2 := (List.getElem?_eq_some_iff.mp h).1
    omega
  have hA1 : ∀ z, va_A [(q, e0)] H.size z → z = q ∨ H.size ≤ z := fun z h => by
    rcases h with ⟨k, e, hk⟩ | h
    · left
      cases k with
      | zero => cases hk; rfl
      | succ k => simp at hk
    · exact Or.inr h
  constructor
  · refine va_P.app ((show va_P D vwCl pre H from fun k z h => hP k z (hpl k z h)).kept fun k z h => hk _ (hne k z h).1 fun a => ?_) hP1
    rcases hA1 _ a with h1 | h1
    · exact (hne k z h).2 h1
    · have := (hne k z h).1; omega
  · refine va_D.app ⟨fun i j p z h1 h2 e => hD.1 i j p z (hpl i p h1) (hpl j z h2) e, fun k z h => hD.2 k z (hpl k z h)⟩ ⟨hD1.1, fun k z h => ?_⟩ fun i j p z h1 h2 e => ?_
    · rcases hA1 _ (hD1.2 k z h) with h3 | h3
      · rw [h3]; exact hD.2 _ _ hq
      · exact hA _ (Nat.le_trans hsz h3)
    · have h4 := hne i p h1
      rcases hA1 _ (hD1.2 j z h2) with h3 | h3
      · exact h4.2 (e.trans h3)
      · omega
theorem cII {y : MethodName} {pre : va_W} {q n mL mc ms : Nat} {bytes : ByteArray} {e0 : va_E} {E : (Nat → Nat) → va_E} {RR : (Nat → Nat) → (Nat → ClassId) → va_W} {ty : (Nat → ClassId) → List (ClassId × FieldType)} {rm : Room} {As st0 : List Value} {tys : List (ClassId × FieldType)} (X : CallFix p m c cc nL s args BG own) (hls : ls.size = nL) (hNW : NW s) (hK : va_K D vwCl tys s) (hP : va_P D vwCl (pre ++ [(q, e0)]) H) (hD : va_D A (pre ++ [(q, e0)])) (hS : va_S A s.heap H locs) (hA : ∀ q, s.heap.size ≤ q → A q) (ok : OkI y bytes mL n) (hlink : Cond.methodLink own index y ∈ BG) (hM : KC l D y bytes mL rm (.ref q :: As) q e0 E RR ty mc ms) (hR : rm.frames + 1 ≤ R.frames ∧ 8 + (mL + 11) + rm.locals ≤ R.locals) (hrc : rm.cells = mc) (hrs : rm.slots = ms) (hcl : cells + mc ≤ R.cells ∧ slots + ms ≤ R.slots) (hn : As.length = n) (hst : st0 = As.reverse ++ .ref q :: rest) (hW : (rest.map fun v => v.category).sum ≤ 8) (hdg : decode cc pc = .ok (.invokespecial index, 3))
    (kk : ∀ (ad : Nat → Nat) (dA : Nat → ClassId) (H1 : Heap) (locs1 : List Loc), va_P D vwCl (pre ++ (q, E ad) :: RR ad dA) H1 → va_D A (pre ++ (q, E ad) :: RR ad dA) → va_S A s.heap H1 locs1 → va_K D vwCl (tys ++ ty dA) s → W p l e R s m args below meth c H1 locs1 (cells + mc) (slots + ms) Q (F0 m (pc + 3) ls rest)) : W p l e R s m args below meth c H locs cells slots Q (F0 m pc ls st0) := by
  subst hst
  have hq : (pre ++ [(q, e0)])[pre.length]? = some (q, e0) := by simp
  have hA1 : ∀ z, va_A [(q, e0)] H.size z → A z := fun z h => by
    rcases h with ⟨k, e, hk⟩ | h
    · cases k with
      | zero => cases hk; exact hD.2 _ _ hq
      | succ k => simp at hk
    · exact hA _ (Nat.le_trans hS.1 h)
  have hP0 : va_P D vwCl [(q, e0)] H := fun k z h => by
    cases k with
    | zero => cases h; exact hP _ _ hq
    | succ k => simp at h
  have hD0 : va_D (fun _ => True) [(q, e0)] := ⟨fun i j p z h1 h2 _ => by
    have g1 := (List.getElem?_eq_some_iff.mp h1).1
    have g2 := (List.getElem?_eq_some_iff.mp h2).1
    simp only [List.length_cons, List.length_nil] at g1 g2
    omega, fun _ _ _ => trivial⟩
  refine va_callv (va_runI (As := As) (rest := rest) X (hM H.size) (cwI n X.2.2.2.2 (gI ok) rfl hrc hrs (X.2.2.2.2 _ ok.1.2.1) (X.2.2.2.2 _ hlink) (X.2.2.2.2 _ ok.1.1) ok.2.1 ok.2.2 hR) ⟨fun a U g mk z => ⟨z.1, z.2.1, z.2.2.1, va_K.moved (u := U) (U := U.calling g mk a) (Vm.Alike.refl U.vm) z.2.2.2.1, z.2.2.2.2.1, z.2.2.2.2.2.call⟩, fun U hU hWm => ⟨rfl, by rw [hU], by rw [hU]; exact hP0, ⟨(va_K.moved hWm.alike hK).1, fun k z h => by simp at h⟩, hD0, hNW.warm hWm⟩⟩ rfl hn hls rfl (lv_room hW) hdg hcl) hS (fun q _ h => hA1 q h) hA1 (fun u t H1 locs1 ht hvm _ hB hz1 hk1 hS1 => ?_)
  obtain ⟨ad, dA, hP1, hK1, hD1⟩ := hB
  rw [ht] at hP1
  obtain ⟨h5, h6⟩ := ki_join hP hD hA hS.1 hk1 hP1 hD1
  exact kk ad dA H1 locs1 h5 h6 hS1 (hK.app (va_K.moved hvm.symm hK1))
theorem cIN {y : MethodName} {pre : va_W} {q n mL mc ms : Nat} {bytes : ByteArray} {e0 : va_E} {E : (Nat → Nat) → va_E} {RR : (Nat → Nat) → (Nat → ClassId) → va_W} {ty : (Nat → ClassId) → List (ClassId × FieldType)} {rm : Room} {As st0 : List Value} {tys : List (ClassId × FieldType)} (X : CallFix p m c cc nL s args BG own) (hls : ls.size = nL) (hNW : NW s) (hK : va_K D vwCl tys s) (hP : va_P D vwCl (pre ++ [(q, e0)]) H) (hD : va_D A (pre ++ [(q, e0)])) (hS : va_S A s.heap H locs) (hA : ∀ q, s.heap.size ≤ q → A q) (ok : OkI y bytes mL n) {host : String} (hlink : va_Nw (.methodLinkNest own index y host) s) (hM : KC l D y bytes mL rm (.ref q :: As) q e0 E RR ty mc ms) (hR : rm.frames + 1 ≤ R.frames ∧ 8 + (mL + 11) + rm.locals ≤ R.locals) (hrc : rm.cells = mc) (hrs : rm.slots = ms) (hcl : cells + mc ≤ R.cells ∧ slots + ms ≤ R.slots) (hn : As.length = n) (hst : st0 = As.reverse ++ .ref q :: rest) (hW : (rest.map fun v => v.category).sum ≤ 8) (hdg : decode cc pc = .ok (.invokespecial index, 3))
    (kk : ∀ (ad : Nat → Nat) (dA : Nat → ClassId) (H1 : Heap) (locs1 : List Loc), va_P D vwCl (pre ++ (q, E ad) :: RR ad dA) H1 → va_D A (pre ++ (q, E ad) :: RR ad dA) → va_S A s.heap H1 locs1 → va_K D vwCl (tys ++ ty dA) s → W p l e R s m args below meth c H1 locs1 (cells + mc) (slots + ms) Q (F0 m (pc + 3) ls rest)) : W p l e R s m args below meth c H locs cells slots Q (F0 m pc ls st0) := by
  subst hst
  have hq : (pre ++ [(q, e0)])[pre.length]? = some (q, e0) := by simp
  have hA1 : ∀ z, va_A [(q, e0)] H.size z → A z := fun z h => by
    rcases h with ⟨k, e, hk⟩ | h
    · cases k with
      | zero => cases hk; exact hD.2 _ _ hq
      | succ k => simp at hk
    · exact hA _ (Nat.le_trans hS.1 h)
  have hP0 : va_P D vwCl [(q, e0)] H := fun k z h => by
    cases k with
    | zero => cases h; exact hP _ _ hq
    | succ k => simp at h
  have hD0 : va_D (fun _ => True) [(q, e0)] := ⟨fun i j p z h1 h2 _ => by
    have g1 := (List.getElem?_eq_some_iff.mp h1).1
    have g2 := (List.getElem?_eq_some_iff.mp h2).1
    simp only [List.length_cons, List.length_nil] at g1 g2
    omega, fun _ _ _ => trivial⟩
  refine va_callv (va_runIN (As := As) (rest := rest) X (hM H.size) (⟨va_cnB n X.2.2.2.2 (gI ok) rfl hrc hrs hlink (X.2.2.2.2 _ ok.1.2.1) ok.2.2 hR, ok.2.1, X.2.2.2.2 _ ok.1.1⟩) ⟨fun a U g mk z => ⟨z.1, z.2.1, z.2.2.1, va_K.moved (u := U) (U := U.calling g mk a) (Vm.Alike.refl U.vm) z.2.2.2.1, z.2.2.2.2.1, z.2.2.2.2.2.call⟩, fun U hU hWm => ⟨rfl, by rw [hU], by rw [hU]; exact hP0, ⟨(va_K.moved hWm.alike hK).1, fun k z h => by simp at h⟩, hD0, hNW.warm hWm⟩⟩ rfl hn hls rfl (lv_room hW) hdg hcl) hS (fun q _ h => hA1 q h) hA1 (fun u t H1 locs1 ht hvm _ hB hz1 hk1 hS1 => ?_)
  obtain ⟨ad, dA, hP1, hK1, hD1⟩ := hB
  rw [ht] at hP1
  obtain ⟨h5, h6⟩ := ki_join hP hD hA hS.1 hk1 hP1 hD1
  exact kk ad dA H1 locs1 h5 h6 hS1 (hK.app (va_K.moved hvm.symm hK1))
end CTR
/-! ===== BEGIN new T[n][m]: the outer array a place, the inner ones among the pooled ===== -/
/-- f, but v at every address of l -/
def vr_up {α : Type} (f : Nat → α) (l : List Nat) (v : α) : Nat → α := fun a => if a ∈ l then v else f a
theorem vr_up_in {α : Type} {f : Nat → α} {l : List Nat} {v : α} {a : Nat} (h : a ∈ l) : vr_up f l v a = v := if_pos h
theorem vr_up_ne {α : Type} {f : Nat → α} {l : List Nat} {v : α} {a : Nat} (h : a ∉ l) : vr_up f l v a = f a := if_neg h
theorem vr_rows {L l : List Nat} {f : Nat → va_E} {e : va_E} (h : ∀ a, a ∈ l → a ∉ L) : va_pl L f ++ l.map (fun a => (a, e)) = va_pl (L ++ l) (vr_up f l e) := by
  unfold va_pl
  rw [List.map_append]
  congr 1
  · apply List.map_congr_left
    intro a ha
    rw [vr_up_ne (fun q => h a q ha)]
  · apply List.map_congr_left
    intro a ha
    rw [vr_up_in ha]
theorem vr_lay {X rows : va_W} {x : Nat × va_E} {pl : va_W} {D : va_G} {cl : List vw_C} {H : Heap} (hP : va_P D cl (((X ++ pl) ++ [x]) ++ rows) H) : va_P D cl ((X ++ [x]) ++ (pl ++ rows)) H := by
  rw [List.append_assoc (X ++ pl)] at hP
  have h := va_P.swap hP
  rw [← List.append_assoc X] at h
  have h2 := va_P.swap h
  rw [List.append_assoc (X ++ [x])] at h2
  exact h2
theorem vr_layD {X rows : va_W} {x : Nat × va_E} {pl : va_W} {A : Nat → Prop} (hD : va_D A (((X ++ pl) ++ [x]) ++ rows)) : va_D A ((X ++ [x]) ++ (pl ++ rows)) := by
  rw [List.append_assoc (X ++ pl)] at hD
  have h := va_D.swap hD
  rw [← List.append_assoc X] at h
  have h2 := va_D.swap h
  rw [List.append_assoc (X ++ [x])] at h2
  exact h2
theorem vr_outer (c : ClassId) (N h0 : Nat) : ∀ i : Nat, Jvm.Free.Multi.outerC c N h0 i = arrV c N (fun j => va_rf (if j < i then some (h0 + 1 + j) else none))
  | 0 => by
    show ({ cls := c, slots := Array.replicate N .null, vm := .none } : Cell) = _
    rw [arrV_new]
    refine congrArg (arrV c N) (funext fun j => ?_)
    simp [va_rf]
  | i + 1 => by
    show (Jvm.Free.Multi.outerC c N h0 i).setSlot i (.ref (h0 + 1 + i)) = _
    rw [vr_outer c N h0 i, arrV_store]
    refine congrArg (arrV c N) (funext fun j => ?_)
    by_cases e : j = i
    · subst e
      simp [updV, va_rf]
    · by_cases h : j < i
      · simp [updV, e, h, Nat.lt_succ_of_lt h]
      · simp [updV, e, h, show ¬ j < i + 1 by omega]
section VGM
variable {p : Program} {l : Launch} {e : Env} {R : Room} {s : State} {m : MethodId} {args : Array Value} {below : List Frame} {meth : Method} {c : Code} {H : Heap} {locs : List Loc} {cells slots : Nat} {Q : State → Prop}
variable {cc : ByteArray} {pc : Nat} {ls : Array Slot} {rest : List Value} {D : va_G} {cl : List vw_C} {A : Nat → Prop} {a : Nat} {tys : List (ClassId × FieldType)} {ws : va_W} {H0 : Heap}
theorem va_mna {X : va_W} {L : List Nat} {f : Nat → va_E} {cc : ByteArray} (hexec : p.tables.exec = Jvm.exec) (hb : c.code = cc) {own : String} {index : Nat} {ty : FieldType} {cy : ClassId} (hown : s.vm.findClass own = some m.cls) (hclink : (Cond.classLink own index ("[" ++ (FieldType.array ty).toString)).before args s = true) (hover : va_AOA ty s) (harr : (Cond.arrayClass ty).before args s = true) (hcy : s.vm.findClass (FieldType.array ty).toString = some cy)
    (hK : va_K D cl tys s) (hP : va_P D cl (X ++ va_pl L f) H) (hD : va_D A (X ++ va_pl L f)) (hS : va_S A H0 H locs) (hA : ∀ q, H0.size ≤ q → A q) {n k : Int32} {N' K' : Nat} {z : vp_A} (hn : ¬ n < 0) (hk : ¬ k < 0) (hN : n.toNatClampNeg = N') (hM : k.toNatClampNeg = K')
    (hb1 : N' * 4 ≤ 536870912) (hb2 : K' * componentBytes ty ≤ 536870912) (hb3 : K' ≤ 536870912) (hdf : fits ty (defaultValue ty) = true) (hdd : (defaultValue ty).isDefault = true) (hcells : cells + (1 + N') ≤ R.cells) (hslots : slots + (N' + N' * K') ≤ R.slots) (hz : ∀ c : ClassId, Jvm.Free.Multi.innerC c K' (defaultValue ty) = vp_cell c z) (hdg : decode cc pc = .ok (.multianewarray index 2, 4))
    (kk : ∀ (q : Nat) (r : Nat → Nat) (cA : ClassId) (H1 : Heap), (∀ i j : Nat, i < N' → j < N' → r i = r j → i = j) → (∀ i : Nat, i < N' → r i ∉ L) → va_K D cl (tys ++ [(cA, .array ty)]) s →
      va_P D cl ((X ++ [(q, .inl (cA, N', .inr (.inr (.inr (.inr (fun i => if i < N' then some (r i) else none))))))]) ++ va_pl (L ++ (List.range N').map r) (vr_up f ((List.range N').map r) (.inl (cy, z)))) H1 → va_D A ((X ++ [(q, .inl (cA, N', .inr (.inr (.inr (.inr (fun i => if i < N' then some (r i) else none))))))]) ++ va_pl (L ++ (List.range N').map r) (vr_up f ((List.range N').map r) (.inl (cy, z)))) → va_S A H0 H1 locs →
      W p l e R s m args below meth c H1 locs (cells + 1 + N') (slots + N' + N' * K') Q (F0 m (pc + 4) ls (.ref q :: rest))) : W p l e R s m args below meth c H locs cells slots Q (F0 m pc ls (.int k :: .int n :: rest)) := by
  subst hN
  subst hM
  intro T hT Xs
  obtain ⟨vm₁, cA, comp, -, fA, fC, hO, -, X', step⟩ := Xs.multianewarray2F hexec hown hclink (va_AOA.use hover) harr (g := F0 m pc ls (.int k :: .int n :: rest)) rfl (by rw [hb]; exact hdg) rfl hn hk hb1 hb2 hb3 hdf hdd hcells hslots
  have ec : some cy = some comp := hcy.symm.trans fC
  cases ec
  generalize hF : Jvm.Free.Multi.fill (T.setVm vm₁) cA cy n.toNatClampNeg k.toNatClampNeg (defaultValue ty) n.toNatClampNeg = F at X' step
  have hTh : (T.setVm vm₁).heap = H := hT
  obtain ⟨f1, f2, -, -⟩ := Jvm.Free.Multi.fill_facts (T.setVm vm₁) cA cy n.toNatClampNeg k.toNatClampNeg (defaultValue ty) n.toNatClampNeg
  rw [hF, hTh] at f1 f2
  have hold : ∀ x : Nat, x < H.size → F.heap[x]? = H[x]? := fun x hx => by
    have := Jvm.Free.Multi.fill_old (T.setVm vm₁) cA cy n.toNatClampNeg k.toNatClampNeg (defaultValue ty) (a := x) (by rw [hTh]; exact hx) n.toNatClampNeg
    rw [hF, hTh] at this
    exact this
  have hrow : ∀ j : Nat, j < n.toNatClampNeg → F.heap[H.size + 1 + j]? = some (vp_cell cy z) := fun j hj => by
    have := Jvm.Free.Multi.fill_inner (T.setVm vm₁) cA cy n.toNatClampNeg k.toNatClampNeg (defaultValue ty) n.toNatClampNeg j hj
    rw [hF, hTh, hz] at this
    exact this
  have hout : Jvm.Free.Multi.outerC cA n.toNatClampNeg H.size n.toNatClampNeg = vp_cell cA (n.toNatClampNeg, .inr (.inr (.inr (.inr (fun i => if i < n.toNatClampNeg then some (H.size + 1 + i) else none))))) := by
    rw [vp_cell_q]
    exact vr_outer cA n.toNatClampNeg H.size n.toNatClampNeg
  rw [hout] at f2
  have hlt : ∀ a, a ∈ L → a < H.size := fun a ha => by
    obtain ⟨k9, hk9⟩ := va_pl_get (X := X) (f := f) ha
    exact (hP k9 _ hk9).lt
  have hnl : ∀ i : Nat, i < n.toNatClampNeg → H.size + 1 + i ∉ L := fun i _ h => by
    have := hlt _ h
    omega
  have hnm : ∀ a, a ∈ (List.range n.toNatClampNeg).map (fun i => H.size + 1 + i) → a ∉ L := fun a ha h => by
    obtain ⟨i, -, rfl⟩ := List.mem_map.mp ha
    have := hlt _ h
    omega
  have hP0 : va_P D cl (X ++ va_pl L f) F.heap := hP.kept (fun k9 x hx => hold x.1 ((hP k9 x hx).lt))
  have hP1 : va_P D cl ((X ++ va_pl L f) ++ [(H.size, .inl (cA, n.toNatClampNeg, .inr (.inr (.inr (.inr (fun i => if i < n.toNatClampNeg then some (H.size + 1 + i) else none))))))]) F.heap := hP0.app (fun k9 x hx => by
    have h0 : k9 < 1 := (List.getElem?_eq_some_iff.mp hx).1
    rw [show k9 = 0 by omega] at hx
    cases hx
    exact f2)
  have hP2 : va_P D cl (((X ++ va_pl L f) ++ [(H.size, .inl (cA, n.toNatClampNeg, .inr (.inr (.inr (.inr (fun i => if i < n.toNatClampNeg then some (H.size + 1 + i) else none))))))]) ++ ((List.range n.toNatClampNeg).map (fun i => H.size + 1 + i)).map (fun a => (a, .inl (cy, z)))) F.heap := hP1.app (fun k9 x hx => by
    obtain ⟨a, ha, rfl⟩ := List.mem_map.mp (List.mem_of_getElem? hx)
    obtain ⟨i, hi, rfl⟩ := List.mem_map.mp ha
    exact hrow i (List.mem_range.mp hi))
  have hD2 : va_D A (((X ++ va_pl L f) ++ [(H.size, .inl (cA, n.toNatClampNeg, .inr (.inr (.inr (.inr (fun i => if i < n.toNatClampNeg then some (H.size + 1 + i) else none))))))]) ++ ((List.range n.toNatClampNeg).map (fun i => H.size + 1 + i)).map (fun a => (a, .inl (cy, z)))) := by
    have hD1 := hD.push (e := .inl (cA, n.toNatClampNeg, .inr (.inr (.inr (.inr (fun i => if i < n.toNatClampNeg then some (H.size + 1 + i) else none)))))) hP rfl (hA _ hS.1)
    generalize hW1 : (X ++ va_pl L f) ++ [(H.size, .inl (cA, n.toNatClampNeg, .inr (.inr (.inr (.inr (fun i => if i < n.toNatClampNeg then some (H.size + 1 + i) else none))))))] = W1 at hD1 hP1 ⊢
    have hle : ∀ (k9 : Nat) (x : Nat × va_E), W1[k9]? = some x → x.1 ≤ H.size := fun k9 x hx => by
      rw [← hW1] at hx
      by_cases hl : k9 < (X ++ va_pl L f).length
      · rw [List.getElem?_append_left hl] at hx
        exact Nat.le_of_lt ((hP k9 x hx).lt)
      · rw [List.getElem?_append_right (by omega)] at hx
        have h0 : k9 - (X ++ va_pl L f).length < 1 := (List.getElem?_eq_some_iff.mp hx).1
        rw [show k9 - (X ++ va_pl L f).length = 0 by omega] at hx
        cases hx
        exact Nat.le_refl _
    have hr : ∀ (k9 : Nat) (x : Nat × va_E), (((List.range n.toNatClampNeg).map (fun i => H.size + 1 + i)).map (fun a => ((a, .inl (cy, z)) : Nat × va_E)))[k9]? = some x → x.1 = H.size + 1 + k9 := fun k9 x hx => by
      rw [List.getElem?_map, List.getElem?_map] at hx
      by_cases h9 : k9 < n.toNatClampNeg
      · rw [List.getElem?_range h9] at hx
        cases hx
        rfl
      · have hn0 : (List.range n.toNatClampNeg)[k9]? = none := List.getElem?_eq_none (by rw [List.length_range]; omega)
        rw [hn0] at hx
        cases hx
    refine ⟨fun i j x y hi hj hxy => ?_, fun k9 x hx => ?_⟩
    · by_cases h1 : i < W1.length <;> by_cases h2 : j < W1.length
      · rw [List.getElem?_append_left h1] at hi
        rw [List.getElem?_append_left h2] at hj
        exact hD1.1 i j x y hi hj hxy
      · rw [List.getElem?_append_left h1] at hi
        rw [List.getElem?_append_right (by omega)] at hj
        have := hle _ _ hi
        have := hr _ _ hj
        omega
      · rw [List.getElem?_append_right (by omega)] at hi
        rw [List.getElem?_append_left h2] at hj
        have := hle _ _ hj
        have := hr _ _ hi
        omega
      · rw [List.getElem?_append_right (by omega)] at hi hj
        have := hr _ _ hi
        have := hr _ _ hj
        omega
    · by_cases h1 : k9 < W1.length
      · rw [List.getElem?_append_left h1] at hx
        exact hD1.2 k9 x hx
      · rw [List.getElem?_append_right (by omega)] at hx
        have := hr _ _ hx
        exact hA _ (by have := hS.1; omega)
  have hAr : ArrOfT s cA (.array ty) := fun N9 z9 => by
    obtain ⟨-, k9, hk9, cm9, hkk9⟩ := (hO 0 0 0).1
    exact ⟨(fun q hq => by cases hq), k9, hk9, cm9, hkk9⟩
  have hK2 : va_K D cl (tys ++ [(cA, .array ty)]) s := ⟨hK.1, fun k9 x hx => by
    by_cases hl : k9 < tys.length
    · rw [List.getElem?_append_left hl] at hx
      exact hK.2 k9 x hx
    · rw [List.getElem?_append_right (by omega)] at hx
      have h0 : k9 - tys.length < 1 := (List.getElem?_eq_some_iff.mp hx).1
      rw [show k9 - tys.length = 0 by omega] at hx
      cases hx
      exact ⟨hAr, fA⟩⟩
  obtain ⟨t, a1, b1⟩ := kk H.size (fun i => H.size + 1 + i) cA F.heap (fun i j _ _ h => by have h9 : H.size + 1 + i = H.size + 1 + j := h; omega) hnl hK2 (by rw [← vr_rows hnm]; exact vr_lay hP2) (by rw [← vr_rows hnm]; exact vr_layD hD2) ⟨by rw [f1]; have := hS.1; omega, fun x h1 h2 => (hold x (Nat.lt_of_lt_of_le h1 hS.1)).trans (hS.2.1 x h1 h2), hS.2.2⟩ F rfl X'
  refine ⟨t, step t ?_, b1⟩
  have e : T.heap.size = H.size := by rw [hT]
  rw [e]
  exact a1
end VGM
/-! ===== END ===== -/
theorem mna4 {p : Program} {l : Launch} {e : Env} {R : Room} {s : State} {m : MethodId} {args : Array Value} {below : List Frame} {meth : Method} {c : Code} {H : Heap} {locs : List Loc} {cells slots : Nat} {Q : State → Prop} {cc : ByteArray} {pc : Nat} {ls : Array Slot} {rest : List Value} {D : va_G} {cl : List vw_C} {A : Nat → Prop} {tys : List (ClassId × FieldType)} {H0 : Heap} {pre : va_W} {own : String} {index : Nat} (hexec : p.tables.exec = Jvm.exec) (hb : c.code = cc) (hown : s.vm.findClass own = some m.cls) (hcl : (Cond.classLink own index "[[I").before args s = true) (hao : (Cond.arrayOver (.array .int)).before args s = true) (hac : (Cond.arrayClass .int).before args s = true) (hK : va_K D cl tys s) (hP : va_P D cl pre H) (hD : va_D A pre) (hS : va_S A H0 H locs) (hA : ∀ q, H0.size ≤ q → A q) (hcells : cells + 5 ≤ R.cells) (hslots : slots + 4 ≤ R.slots) (hdg : decode cc pc = .ok (.multianewarray index 2, 4))
    (kk : ∀ (q : Nat) (r : Nat → Nat) (c9 d9 : ClassId) (H1 : Heap), va_K D cl (tys ++ [(c9, .array .int), (d9, .int), (d9, .int), (d9, .int), (d9, .int)]) s → va_P D cl (pre ++ [(q, .inl (c9, 4, .inr (.inr (.inr (.inr (lw4 (r 0) (r 1) (r 2) (r 3))))))), (r 0, .inl (d9, 0, .inl (fun _ => 0))), (r 1, .inl (d9, 0, .inl (fun _ => 0))), (r 2, .inl (d9, 0, .inl (fun _ => 0))), (r 3, .inl (d9, 0, .inl (fun _ => 0)))]) H1 → va_D A (pre ++ [(q, .inl (c9, 4, .inr (.inr (.inr (.inr (lw4 (r 0) (r 1) (r 2) (r 3))))))), (r 0, .inl (d9, 0, .inl (fun _ => 0))), (r 1, .inl (d9, 0, .inl (fun _ => 0))), (r 2, .inl (d9, 0, .inl (fun _ => 0))), (r 3, .inl (d9, 0, .inl (fun _ => 0)))]) → va_S A H0 H1 locs → W p l e R s m args below meth c H1 locs (cells + 5) (slots + 4) Q (F0 m (pc + 4) ls (.ref q :: rest))) : W p l e R s m args below meth c H locs cells slots Q (F0 m pc ls (.int 0 :: .int 4 :: rest)) := by
  obtain ⟨d9, k9, comp, h1, h2, h3⟩ := Cond.arrayClass_spec hac
  refine va_mna (X := pre) (L := []) (f := fun _ => .inr (0, [])) (ty := .int) (cy := d9) (N' := 4) (K' := 0) (z := (0, .inl (fun _ => 0))) hexec hb hown hcl (va_AOA.of hao) hac h1 hK (by simpa [va_pl] using hP) (by simpa [va_pl] using hD) hS hA (by decide) (by decide) (by decide) (by decide) (by decide) (by decide) (by decide) rfl rfl hcells hslots (fun _ => rfl) hdg (fun q r c9 H1 hinj _ hK1 hP1 hD1 hS1 => ?_)
  have e1 : va_pl ([] ++ (List.range 4).map r) (vr_up (fun _ => .inr (0, [])) ((List.range 4).map r) (.inl (d9, 0, .inl (fun _ => 0)))) = [(r 0, .inl (d9, 0, .inl (fun _ => 0))), (r 1, .inl (d9, 0, .inl (fun _ => 0))), (r 2, .inl (d9, 0, .inl (fun _ => 0))), (r 3, .inl (d9, 0, .inl (fun _ => 0)))] := by
    simp [va_pl, vr_up, List.range_succ]
  rw [e1, List.append_assoc] at hP1 hD1
  have e2 : (fun i => if i < 4 then some (r i) else none) = lw4 (r 0) (r 1) (r 2) (r 3) := by
    funext i
    by_cases h : i < 4
    · rcases (show i = 0 ∨ i = 1 ∨ i = 2 ∨ i = 3 by omega) with rfl | rfl | rfl | rfl <;> rfl
    · simp [lw4, h, show i ≠ 0 by omega, show i ≠ 1 by omega, show i ≠ 2 by omega, show i ≠ 3 by omega]
  rw [e2] at hP1 hD1
  refine kk q r c9 d9 H1 ?_ hP1 hD1 hS1
  have hd : va_K D cl [(d9, .int), (d9, .int), (d9, .int), (d9, .int)] s := ⟨hK.1, fun k z hz => by
    have hk : k < 4 := (List.getElem?_eq_some_iff.mp hz).1
    have hz2 : z = (d9, .int) := by
      rcases (show k = 0 ∨ k = 1 ∨ k = 2 ∨ k = 3 by omega) with rfl | rfl | rfl | rfl <;> cases hz <;> rfl
    subst hz2
    exact ⟨fun n z => ⟨(fun q hq => by cases hq), k9, h2, comp, h3⟩, h1⟩⟩
  have := hK1.app hd
  rwa [List.append_assoc] at this
theorem ob_inst : Cond.instanceMethod objectInit ∈ BG := bg_t1 (i := 28) (by decide +kernel) rfl
theorem ob_code : Cond.code objectInit ⟨#[0xb1]⟩ 1 none ∈ BG := bg_t1 (i := 29) (by rfl) rfl
theorem clL_8 : Cond.classLink RL 8 RX11 ∈ BG := bg_t1 (i := 22) (by decide +kernel) rfl
theorem inX11 : Cond.instantiable RX11 13 ∈ BG := bg_t1 (i := 23) (by decide +kernel) rfl
theorem clX11_7 : Cond.classLink RX11 7 RX9 ∈ BG := bg_t1 (i := 30) (by decide +kernel) rfl
theorem inX9 : Cond.instantiable RX9 3 ∈ BG := bg_t1 (i := 31) (by decide +kernel) rfl
theorem ac_int : Cond.arrayClass .int ∈ BG := bg_t1 (i := 49) (by decide +kernel) rfl
theorem clX11_16 : Cond.classLink RX11 16 RX5 ∈ BG := bg_t1 (i := 50) (by decide +kernel) rfl
theorem inX5 : Cond.instantiable RX5 8 ∈ BG := bg_t1 (i := 51) (by decide +kernel) rfl
theorem clX11_23 : Cond.classLink RX11 23 RX6 ∈ BG := bg_t1 (i := 109) (by decide +kernel) rfl
theorem inX6 : Cond.instantiable RX6 2 ∈ BG := bg_t1 (i := 110) (by decide +kernel) rfl
theorem clX6_9 : Cond.classLink RX6 9 RX5 ∈ BG := bg_t1 (i := 115) (by decide +kernel) rfl
theorem clX11_32 : Cond.classLink RX11 32 RX3 ∈ BG := bg_t1 (i := 125) (by decide +kernel) rfl
theorem inX3 : Cond.instantiable RX3 3 ∈ BG := bg_t1 (i := 126) (by decide +kernel) rfl
theorem clX11_39 : Cond.classLink RX11 39 RX2 ∈ BG := bg_t1 (i := 143) (by decide +kernel) rfl
theorem inX2 : Cond.instantiable RX2 6 ∈ BG := bg_t1 (i := 144) (by decide +kernel) rfl
theorem clX2_9 : Cond.classLink RX2 9 "[[I" ∈ BG := bg_t1 (i := 149) (by decide +kernel) rfl
theorem clX11_48 : Cond.classLink RX11 48 RX8 ∈ BG := bg_t1 (i := 172) (by decide +kernel) rfl
theorem inX8 : Cond.instantiable RX8 10 ∈ BG := bg_t1 (i := 173) (by decide +kernel) rfl
theorem clX11_55 : Cond.classLink RX11 55 RX4 ∈ BG := bg_t1 (i := 234) (by decide +kernel) rfl
theorem inX4 : Cond.instantiable RX4 7 ∈ BG := bg_t1 (i := 235) (by decide +kernel) rfl
theorem clX11_62 : Cond.classLink RX11 62 RX10 ∈ BG := bg_t2 (i := 23) (by decide +kernel) rfl
theorem inX10 : Cond.instantiable RX10 4 ∈ BG := bg_t2 (i := 24) (by decide +kernel) rfl
theorem clX11_71 : Cond.classLink RX11 71 RX0 ∈ BG := bg_t2 (i := 43) (by decide +kernel) rfl
theorem inX0 : Cond.instantiable RX0 12 ∈ BG := bg_t2 (i := 44) (by decide +kernel) rfl
theorem clX0_9 : Cond.classLink RX0 9 RX8 ∈ BG := bg_t2 (i := 49) (by decide +kernel) rfl
theorem clX11_80 : Cond.classLink RX11 80 RX7 ∈ BG := bg_t2 (i := 90) (by decide +kernel) rfl
theorem inX7 : Cond.instantiable RX7 6 ∈ BG := bg_t2 (i := 91) (by decide +kernel) rfl
theorem ac_boolean : Cond.arrayClass .boolean ∈ BG := bg_t2 (i := 116) (by decide +kernel) rfl
theorem clX11_89 : Cond.classLink RX11 89 RX1 ∈ BG := bg_t2 (i := 117) (by decide +kernel) rfl
theorem inX1 : Cond.instantiable RX1 5 ∈ BG := bg_t2 (i := 118) (by decide +kernel) rfl
theorem clJ7_317 : Cond.classLink RJ7 317 "[I" ∈ BG := bg_t3 (i := 111) (by decide +kernel) rfl
theorem clL_13 : Cond.classLink RL 13 "java/util/NoSuchElementException" ∈ BG := bg_t5 (i := 150) (by decide +kernel) rfl
theorem clX11_175 : Cond.classLink RX11 175 "java/util/NoSuchElementException" ∈ BG := bg_t5 (i := 155) (by decide +kernel) rfl
theorem clL_16 : Cond.classLink RL 16 RX12 ∈ BG := bg_t5 (i := 221) (by decide +kernel) rfl
theorem inX12 : Cond.instantiable RX12 45 ∈ BG := bg_t5 (i := 222) (by decide +kernel) rfl
theorem ac_long : Cond.arrayClass .long ∈ BG := bg_t8 (i := 120) (by decide +kernel) rfl
theorem koX0_init : OkI yX0_init cX0_init 4 3 := ⟨⟨bg_t2 (i := 46) (by decide +kernel) rfl, liX0, bg_t2 (i := 47) (by rfl) rfl⟩, rfl, by decide +kernel⟩
theorem nw_X0 : ∀ j, j < 12 → defaultValue (tyX0 j) = vp_V [.null, .null, .null, .null, .null, .null, .null, .null, .null, .int 0, .int 0, .int 0] j := by
  intro j hj
  match j, hj with
  | 0, _ => rfl
  | 1, _ => rfl
  | 2, _ => rfl
  | 3, _ => rfl
  | 4, _ => rfl
  | 5, _ => rfl
  | 6, _ => rfl
  | 7, _ => rfl
  | 8, _ => rfl
  | 9, _ => rfl
  | 10, _ => rfl
  | 11, _ => rfl
  | j + 12, hj => exact absurd hj (by omega)
theorem koX1_init : OkI yX1_init cX1_init 4 3 := ⟨⟨bg_t2 (i := 120) (by decide +kernel) rfl, liX1, bg_t2 (i := 121) (by rfl) rfl⟩, rfl, by decide +kernel⟩
theorem nw_X1 : ∀ j, j < 5 → defaultValue (tyX1 j) = vp_V [.null, .null, .null, .null, .null] j := by
  intro j hj
  match j, hj with
  | 0, _ => rfl
  | 1, _ => rfl
  | 2, _ => rfl
  | 3, _ => rfl
  | 4, _ => rfl
  | j + 5, hj => exact absurd hj (by omega)
theorem koX2_init : OkI yX2_init cX2_init 2 1 := ⟨⟨bg_t1 (i := 146) (by decide +kernel) rfl, liX2, bg_t1 (i := 147) (by rfl) rfl⟩, rfl, by decide +kernel⟩
theorem nw_X2 : ∀ j, j < 6 → defaultValue (tyX2 j) = vp_V [.null, .null, .null, .null, .int 0, .int 0] j := by
  intro j hj
  match j, hj with
  | 0, _ => rfl
  | 1, _ => rfl
  | 2, _ => rfl
  | 3, _ => rfl
  | 4, _ => rfl
  | 5, _ => rfl
  | j + 6, hj => exact absurd hj (by omega)
theorem koX3_init : OkI yX3_init cX3_init 2 1 := ⟨⟨bg_t1 (i := 128) (by decide +kernel) rfl, liX3, bg_t1 (i := 129) (by rfl) rfl⟩, rfl, by decide +kernel⟩
theorem nw_X3 : ∀ j, j < 3 → defaultValue (tyX3 j) = vp_V [.null, .null, .int 0] j := by
  intro j hj
  match j, hj with
  | 0, _ => rfl
  | 1, _ => rfl
  | 2, _ => rfl
  | j + 3, hj => exact absurd hj (by omega)
theorem koX4_init : OkI yX4_init cX4_init 1 0 := ⟨⟨bg_t1 (i := 237) (by decide +kernel) rfl, liX4, bg_t1 (i := 238) (by rfl) rfl⟩, rfl, by decide +kernel⟩
theorem nw_X4 : ∀ j, j < 7 → defaultValue (tyX4 j) = vp_V [.null, .null, .null, .null, .int 0, .int 0, .int 0] j := by
  intro j hj
  match j, hj with
  | 0, _ => rfl
  | 1, _ => rfl
  | 2, _ => rfl
  | 3, _ => rfl
  | 4, _ => rfl
  | 5, _ => rfl
  | 6, _ => rfl
  | j + 7, hj => exact absurd hj (by omega)
theorem koX5_init : OkI yX5_init cX5_init 1 0 := ⟨⟨bg_t1 (i := 53) (by decide +kernel) rfl, liX5, bg_t1 (i := 54) (by rfl) rfl⟩, rfl, by decide +kernel⟩
theorem nw_X5 : ∀ j, j < 8 → defaultValue (tyX5 j) = vp_V [.int 0, .int 0, .int 0, .int 0, .int 0, .null, .null, .null] j := by
  intro j hj
  match j, hj with
  | 0, _ => rfl
  | 1, _ => rfl
  | 2, _ => rfl
  | 3, _ => rfl
  | 4, _ => rfl
  | 5, _ => rfl
  | 6, _ => rfl
  | 7, _ => rfl
  | j + 8, hj => exact absurd hj (by omega)
theorem koX6_init : OkI yX6_init cX6_init 2 1 := ⟨⟨bg_t1 (i := 112) (by decide +kernel) rfl, liX6, bg_t1 (i := 113) (by rfl) rfl⟩, rfl, by decide +kernel⟩
theorem nw_X6 : ∀ j, j < 2 → defaultValue (tyX6 j) = vp_V [.null, .null] j := by
  intro j hj
  match j, hj with
  | 0, _ => rfl
  | 1, _ => rfl
  | j + 2, hj => exact absurd hj (by omega)
theorem koX7_init : OkI yX7_init cX7_init 3 2 := ⟨⟨bg_t2 (i := 93) (by decide +kernel) rfl, liX7, bg_t2 (i := 94) (by rfl) rfl⟩, rfl, by decide +kernel⟩
theorem nw_X7 : ∀ j, j < 6 → defaultValue (tyX7 j) = vp_V [.null, .null, .null, .null, .null, .int 0] j := by
  intro j hj
  match j, hj with
  | 0, _ => rfl
  | 1, _ => rfl
  | 2, _ => rfl
  | 3, _ => rfl
  | 4, _ => rfl
  | 5, _ => rfl
  | j + 6, hj => exact absurd hj (by omega)
theorem koX8_init : OkI yX8_init cX8_init 1 0 := ⟨⟨bg_t1 (i := 175) (by decide +kernel) rfl, liX8, bg_t1 (i := 176) (by rfl) rfl⟩, rfl, by decide +kernel⟩
theorem nw_X8 : ∀ j, j < 10 → defaultValue (tyX8 j) = vp_V [.null, .null, .null, .null, .int 0, .int 0, .int 0, .int 0, .int 0, .int 0] j := by
  intro j hj
  match j, hj with
  | 0, _ => rfl
  | 1, _ => rfl
  | 2, _ => rfl
  | 3, _ => rfl
  | 4, _ => rfl
  | 5, _ => rfl
  | 6, _ => rfl
  | 7, _ => rfl
  | 8, _ => rfl
  | 9, _ => rfl
  | j + 10, hj => exact absurd hj (by omega)
theorem koX9_init : OkI yX9_init cX9_init 1 0 := ⟨⟨bg_t1 (i := 33) (by decide +kernel) rfl, liX9, bg_t1 (i := 34) (by rfl) rfl⟩, rfl, by decide +kernel⟩
theorem nw_X9 : ∀ j, j < 3 → defaultValue (tyX9 j) = vp_V [.null, .int 0, .int 0] j := by
  intro j hj
  match j, hj with
  | 0, _ => rfl
  | 1, _ => rfl
  | 2, _ => rfl
  | j + 3, hj => exact absurd hj (by omega)
theorem koX10_init : OkI yX10_init cX10_init 4 3 := ⟨⟨bg_t2 (i := 26) (by decide +kernel) rfl, liX10, bg_t2 (i := 27) (by rfl) rfl⟩, rfl, by decide +kernel⟩
theorem nw_X10 : ∀ j, j < 4 → defaultValue (tyX10 j) = vp_V [.null, .null, .null, .long 0] j := by
  intro j hj
  match j, hj with
  | 0, _ => rfl
  | 1, _ => rfl
  | 2, _ => rfl
  | 3, _ => rfl
  | j + 4, hj => exact absurd hj (by omega)
theorem koX11_init : OkI yX11_init cX11_init 1 0 := ⟨⟨bg_t1 (i := 25) (by decide +kernel) rfl, liX11, bg_t1 (i := 26) (by rfl) rfl⟩, rfl, by decide +kernel⟩
theorem nw_X11 : ∀ j, j < 13 → defaultValue (tyX11 j) = vp_V [.null, .null, .null, .null, .null, .null, .null, .null, .null, .null, .null, .null, .int 0] j := by
  intro j hj
  match j, hj with
  | 0, _ => rfl
  | 1, _ => rfl
  | 2, _ => rfl
  | 3, _ => rfl
  | 4, _ => rfl
  | 5, _ => rfl
  | 6, _ => rfl
  | 7, _ => rfl
  | 8, _ => rfl
  | 9, _ => rfl
  | 10, _ => rfl
  | 11, _ => rfl
  | 12, _ => rfl
  | j + 13, hj => exact absurd hj (by omega)
theorem koX12_init : OkI yX12_init cX12_init 1 0 := ⟨⟨bg_t5 (i := 224) (by decide +kernel) rfl, liX12, bg_t5 (i := 225) (by rfl) rfl⟩, rfl, by decide +kernel⟩
theorem nw_X12 : ∀ j, j < 45 → defaultValue (tyX12 j) = vp_V [.int 0, .null, .int 0, .int 0, .int 0, .int 0, .null, .null, .null, .null, .null, .null, .null, .int 0, .int 0, .null, .null, .null, .null, .int 0, .null, .null, .int 0, .null, .null, .int 0, .int 0, .null, .int 0, .long 0, .null, .int 0, .int 0, .int 0, .null, .null, .null, .int 0, .int 0, .null, .null, .null, .int 0, .null, .int 0] j := by
  intro j hj
  match j, hj with
  | 0, _ => rfl
  | 1, _ => rfl
  | 2, _ => rfl
  | 3, _ => rfl
  | 4, _ => rfl
  | 5, _ => rfl
  | 6, _ => rfl
  | 7, _ => rfl
  | 8, _ => rfl
  | 9, _ => rfl
  | 10, _ => rfl
  | 11, _ => rfl
  | 12, _ => rfl
  | 13, _ => rfl
  | 14, _ => rfl
  | 15, _ => rfl
  | 16, _ => rfl
  | 17, _ => rfl
  | 18, _ => rfl
  | 19, _ => rfl
  | 20, _ => rfl
  | 21, _ => rfl
  | 22, _ => rfl
  | 23, _ => rfl
  | 24, _ => rfl
  | 25, _ => rfl
  | 26, _ => rfl
  | 27, _ => rfl
  | 28, _ => rfl
  | 29, _ => rfl
  | 30, _ => rfl
  | 31, _ => rfl
  | 32, _ => rfl
  | 33, _ => rfl
  | 34, _ => rfl
  | 35, _ => rfl
  | 36, _ => rfl
  | 37, _ => rfl
  | 38, _ => rfl
  | 39, _ => rfl
  | 40, _ => rfl
  | 41, _ => rfl
  | 42, _ => rfl
  | 43, _ => rfl
  | 44, _ => rfl
  | j + 45, hj => exact absurd hj (by omega)
