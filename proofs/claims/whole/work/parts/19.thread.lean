def ETX : String := "no such END, or nothing such of it"
/-- what the throwing needs beside the world: the text, the Throwable's statics -/
def EXT (sa : Nat) (A : Nat → Prop) (U : State) (H : Heap) : Prop := (va_Nw (.castable NSE NSE) U ∧ va_Nw (.declares (Bundle.initS RTE)) U ∧ va_Nw (.declares (Bundle.initS "java/lang/Exception")) U ∧ va_Nw (.declares (Bundle.initS Bundle.tN)) U) ∧ vk_R "LooseEnds" 177 ETX sa U ∧ vx_Zq Bundle.tN "UNASSIGNED_STACK" Bundle.steD A U H ∧ vx_Zq Bundle.tN "SUPPRESSED_SENTINEL" Bundle.listD A U H
theorem EXT.to {sa : Nat} {A B : Nat → Prop} {u U : State} {H H1 : Heap} (h : EXT sa A u H) (hW : u.WarmedH U.vm) (hq : ∀ a : Nat, a < H.size → ¬ A a → H1[a]? = H[a]?) (hAB : ∀ q, B q → A q) : EXT sa B U H1 :=
  ⟨⟨va_Nw.warmC hW h.1.1, va_Nw.warmD hW h.1.2.1, va_Nw.warmD hW h.1.2.2.1, va_Nw.warmD hW h.1.2.2.2⟩, vk_R.warm hW h.2.1, ((h.2.2.1.kept hq).narrow hAB).moved hW.alike, ((h.2.2.2.kept hq).narrow hAB).moved hW.alike⟩
theorem EXT.call {sa : Nat} {A : Nat → Prop} {U : State} {g : JFrame} {mk : MethodId} {a : Array Value} (h : EXT sa A U U.heap) : EXT sa A (U.calling g mk a) (U.calling g mk a).heap :=
  ⟨⟨va_Nw.same rfl rfl h.1.1, va_Nw.same rfl rfl h.1.2.1, va_Nw.same rfl rfl h.1.2.2.1, va_Nw.same rfl rfl h.1.2.2.2⟩, vk_R.same rfl h.2.1, vx_Zq.moved (u := U) (U := U.calling g mk a) (Vm.Alike.refl U.vm) h.2.2.1, vx_Zq.moved (u := U) (U := U.calling g mk a) (Vm.Alike.refl U.vm) h.2.2.2⟩
def KT (l : Launch) (D : va_G) (dA : Nat → ClassId) (ad : Nat → Nat) (t1 t2 sa : Nat) (y : MethodName) (cc : ByteArray) (mL : Nat) (rm : Room) (av : List Value) (S T : SS) (o : Nat → Int64) (v : Option Int32) : Prop :=
  ∀ sz, vx_Met l y (.code y cc mL (some .int) :: BG) rm (va_Pc av (fun U => PRE D dA ad t1 t2 S T o sz U ∧ EXT sa (AA ad sz) U U.heap)) (va_Qi (fun r' u => some r' = v ∧ u = (S, T, o)) (POS D dA ad (AA ad sz)) (AA ad sz)) (vx_X (fun u => v = none ∧ u = (S, T, o)) (fun E u t => E = NSE ∧ POS D dA ad (AA ad sz) u t) (AA ad sz)) 1 6 (AA ad sz)
section THR
variable {p : Program} {l : Launch} {e : Env} {R : Room} {s : State} {m : MethodId} {args : Array Value} {below : List Frame} {meth : Method} {c : Code} {H : Heap} {locs : List Loc} {cells slots : Nat} {Q : State → Prop}
variable {cc : ByteArray} {pc nL : Nat} {ls : Array Slot} {rest : List Value} {D : va_G} {dA : Nat → ClassId} {ad : Nat → Nat} {t1 t2 sa : Nat} {A : Nat → Prop} {S T : SS} {o : Nat → Int64} {own : String} {index : Nat}
theorem enT {y : MethodName} {mL : Nat} {rm : Room} {av : List Value} {v : Option Int32} {sz : Nat}
    (hy : plainName y.cls = true) (hav : (lg_sl av).length ≤ mL)
    (h : ∀ (p : Program) (ev : Env) (s : State) (m : MethodId) (args : Array Value) (below : List Frame) (meth : Method) (c : Code) (QQ : State → Prop), QQ = vx_MQ below (va_Qi (fun r' u => some r' = v ∧ u = (S, T, o)) (POS D dA ad (AA ad sz)) (AA ad sz)) (vx_X (fun u => v = none ∧ u = (S, T, o)) (fun E u t => E = NSE ∧ POS D dA ad (AA ad sz) u t) (AA ad sz)) args s 1 6 (AA ad s.heap.size) → sz = s.heap.size → CallFix p m c cc mL s args BG y.cls → meth.sig.returnType = some .int → meth.locks = false → (∀ x ∈ c.exceptionTable.toList, False) → EXT sa (AA ad s.heap.size) s s.heap → WD D dA ad t1 t2 (AA ad s.heap.size) s S T o s.heap [] → ∀ ls, lv_has ls mL (lv_args 0 av) → W p l ev rm s m args below meth c s.heap [] 0 0 QQ (F0 m 0 ls [])) :
    vx_Met l y (.code y cc mL (some .int) :: BG) rm (va_Pc av (fun U => PRE D dA ad t1 t2 S T o sz U ∧ EXT sa (AA ad sz) U U.heap)) (va_Qi (fun r' u => some r' = v ∧ u = (S, T, o)) (POS D dA ad (AA ad sz)) (AA ad sz)) (vx_X (fun u => v = none ∧ u = (S, T, o)) (fun E u t => E = NSE ∧ POS D dA ad (AA ad sz) u t) (AA ad sz)) 1 6 (AA ad sz) := by
  refine vx_ofW (cc := cc) (maxL := mL) (ret := some .int) hy rfl ?_
  intro p ev s m args below meth c s₁ B hml htab hv
  obtain ⟨rfl, hP, hE⟩ := hv
  obtain ⟨rfl, w⟩ := hP.wd
  have hts0 := atoms_spec (ws := .code y cc mL (some .int) :: BG) B.pre
  have hown : s.vm.findClass y.cls = some m.cls := findClass_of_methodNamed B.named
  rw [lg_entry_eq]
  exact h p ev s m _ below meth c _ rfl rfl ⟨B.exec, B.bytes, hml, hown, fun w hw => hts0 w (List.mem_cons_of_mem _ hw)⟩ B.returns B.notSynchronized htab hE w _ (lv_entry av hav)
theorem rtT {v : Int32} {r : Option Int32} {sz : Nat} (X : CallFix p m c cc nL s args BG own) (hr : meth.sig.returnType = some .int) (hlocks : meth.locks = false) (w : WD D dA ad t1 t2 (AA ad s.heap.size) s S T o H locs) (hsz : sz = s.heap.size) (er : some v = r) (hdg : decode cc pc = .ok (.ireturn, 1)) :
    W p l e R s m args below meth c H locs 1 6 (MQ below (va_Qi (fun r' u => some r' = r ∧ u = (S, T, o)) (POS D dA ad (AA ad sz)) (AA ad sz)) args s 1 6 (AA ad s.heap.size)) (F0 m pc ls [.int v]) := by
  subst er hsz
  exact W.iret X.1 X.2.1 hr (fun t ht hW => ⟨⟨v, (S, T, o), rfl, ⟨rfl, rfl⟩, by rw [ht]; exact w.2.1, va_K.moved hW.alike w.1, w.2.2.1⟩, w.2.2.2.1.F ht⟩) w.2.2.2.1.2.2 hdg
theorem th_good : ∀ w ∈ (atN.filter vx_no).filter goodWord, w ∈ BG := by decide +kernel
theorem th_rest : ∀ w ∈ (atN.filter vx_no).filter (fun w => !goodWord w), w ∈ ([Cond.castable NSE NSE, .declares (Bundle.initS RTE), .declares (Bundle.initS "java/lang/Exception"), .declares (Bundle.initS Bundle.tN)] : List Cond) := by decide +kernel
theorem th_ot : ∀ w ∈ Cond.classLink "LooseEnds" 175 NSE :: Cond.initialized NSE :: atN.filter vx_no, vx_ot w = true := by decide +kernel
theorem th_ini : Cond.initialized NSE ∈ BG := bg_t1 (i := 20) (by decide +kernel) rfl
theorem thX {v : Option Int32} {sz : Nat} {QC : Array Value → State → Outcome → State → Prop} (X : CallFix p m c cX11_thread nL s args BG RX11) (hlocks : meth.locks = false) (hst : l.stackTraces = false) (htab : ∀ x ∈ c.exceptionTable.toList, False) (hE : EXT sa (AA ad s.heap.size) s s.heap) (hls : ls.size = nL) (w : WD D dA ad t1 t2 (AA ad s.heap.size) s S T o H locs) (hsz : sz = s.heap.size) (hv : v = none)
    (d0 : decode cX11_thread 20 = .ok (.new 175, 3)) (d3 : decode cX11_thread 23 = .ok (.dup, 1)) (d4 : decode cX11_thread 24 = .ok (.ldc 177, 2)) (d6 : decode cX11_thread 26 = .ok (.invokespecial 179, 3)) (d9 : decode cX11_thread 29 = .ok (.athrow, 1)) :
    W p l e ({ frames := 8, cells := 1, slots := 6, locals := 120 } : Room) s m args below meth c H locs 0 0 (vx_MQ below QC (vx_X (fun u => v = none ∧ u = (S, T, o)) (fun E u t => E = NSE ∧ POS D dA ad (AA ad sz) u t) (AA ad sz)) args s 1 6 (AA ad s.heap.size)) (F0 m 20 ls []) := by
  subst hsz
  refine xc_throw (text := ETX) (ik := 175) (is := 177) X.1 X.2.1 hst X.2.2.2.1 (X.2.2.2.2 _ clX11_175) (X.2.2.2.2 _ th_ini) hE.2.1 (vx_hat (fun w hw => X.2.2.2.2 w (th_good w hw)) th_rest (vx_c (va_Nw.use rfl hE.1.1) (vx_c (va_Nw.use rfl hE.1.2.1) (vx_c (va_Nw.use rfl hE.1.2.2.1) (vx_c (va_Nw.use rfl hE.1.2.2.2) vx_n))))) th_ot hE.2.2.1 hE.2.2.2 w.2.2.2.1 (by rw [X.2.2.1]; exact hls) d0 d3 d4 d6 d9 (fun x hx => (htab x hx).elim) (Nat.le_of_ble_eq_true rfl) (Nat.le_of_ble_eq_true rfl) (Nat.le_of_ble_eq_true rfl) (Nat.le_of_ble_eq_true rfl) hlocks (fun t hal hz hq => ?_) w.2.2.2.1.2.2 (Nat.le_refl _) (Nat.le_refl _)
  refine ⟨(S, T, o), ⟨hv, rfl⟩, ⟨rfl, w.2.1.kept (fun k z hz9 => hq _ ((w.2.1 k z hz9).lt)), va_K.moved hal w.1, w.2.2.1⟩, Nat.le_trans w.2.2.2.1.1 hz, fun q h1 h2 => ?_⟩
  rw [hq q (Nat.lt_of_lt_of_le h1 w.2.2.2.1.1)]
  exact w.2.2.2.1.2.1 q h1 h2
theorem ws_o {S T : SS} {o o' : Nat → Int64} : (wsA dA ad S T o).set 78 (ad 78, .inl (dA 78, 1, .inr (.inl o'))) = wsA dA ad S T o' := by
  refine ws_ext (by decide) rfl (fun i hi hne => ?_)
  by_cases h : (inK i || boK i) = true
  · simp [cellE, h]
  · have h9 : i = 0 ∨ i = 1 ∨ i = 3 ∨ i = 7 ∨ i = 8 ∨ i = 12 ∨ i = 14 ∨ i = 18 ∨ i = 23 ∨ i = 28 ∨ i = 29 ∨ i = 30 ∨ i = 40 ∨ i = 44 ∨ i = 52 ∨ i = 15 := by
      simp only [inK, boK, Bool.or_eq_true, beq_iff_eq, not_or] at h
      omega
    rcases h9 with rfl | rfl | rfl | rfl | rfl | rfl | rfl | rfl | rfl | rfl | rfl | rfl | rfl | rfl | rfl | rfl <;> rfl
theorem lasO {i : Int32} {x : Int64} (X : CallFix p m c cc nL s args BG own) (w : WD D dA ad t1 t2 A s S T o H locs) (hi : i = 0) (hdg : decode cc pc = .ok (.lastore, 1)) (kk : ∀ (H1 : Heap) (locs1 : List Loc), WD D dA ad t1 t2 A s S T (vp_updL o 0 x) H1 locs1 → W p l e R s m args below meth c H1 locs1 cells slots Q (F0 m (pc + 1) ls rest)) : W p l e R s m args below meth c H locs cells slots Q (F0 m pc ls (.long x :: .int i :: .ref (ad 78) :: rest)) := by
  subst hi
  exact va_last X.1 X.2.1 w.1 w.2.1 w.2.2.1 w.2.2.2.1 78 78 ((ws_at (by decide)).trans rfl) (ty_at (by decide)) (inb_in (n := 1) (by decide)) hdg (fun H1 locs1 hP hD hS => kk H1 locs1 ⟨w.1, eqP ws_o hP, eqD ws_o hD, hS, w.2.2.2.2⟩)
theorem lalO {i : Int32} (X : CallFix p m c cc nL s args BG own) (w : WD D dA ad t1 t2 A s S T o H locs) (hi : i = 0) (hdg : decode cc pc = .ok (.laload, 1)) (kk : W p l e R s m args below meth c H locs cells slots Q (F0 m (pc + 1) ls (.long (o 0) :: rest))) : W p l e R s m args below meth c H locs cells slots Q (F0 m pc ls (.int i :: .ref (ad 78) :: rest)) := by
  subst hi
  exact va_lald X.1 X.2.1 w.1 w.2.1 78 78 (f := o) ((ws_at (by decide)).trans rfl) (ty_at (by decide)) (inb_in (n := 1) (by decide)) hdg kk
end THR
def fX11_thread (N : Nat) (S : SS) (p1 : Int32) (p2 : Int32) : Option (Option Int32) := bd (fX5_has N S 3 p1) fun r2 =>
  if r2 = 0 then
  (some none)
  else
  (if p2 < 0 then
  (some none)
  else
  (if p2 ≤ 5 then
  (if p2 = 0 then
  (ck (inb p1 7) <|
  some (some (ga S 19 p1)))
  else
  (if p2 = 1 then
  (ck (inb p1 7) <|
  some (some (ga S 5 p1)))
  else
  (if p2 = 2 then
  (ck (inb p1 7) <|
  some (some (ga S 20 p1)))
  else
  (if p2 = 3 then
  (bd (fX8_isSold N S 18 p1) fun r11 =>
  if r11 = 0 then
  (some (some 0))
  else
  (some (some 1)))
  else
  (if p2 = 4 then
  (ck (inb p1 7) <|
  some (some (ga S 21 p1)))
  else
  (ck (inb p1 7) <|
  some (some (ga S 22 p1))))))))
  else
  (some none)))
set_option maxHeartbeats 4000000 in
set_option maxRecDepth 100000 in
theorem kX11_thread {l : Launch} {D : va_G} {dA : Nat → ClassId} {ad : Nat → Nat} {t1 t2 : Nat} {N : Nat} {sa : Nat} (hst : l.stackTraces = false) {S T : SS} {o : Nat → Int64} {p1 : Int32} {p2 : Int32} {r : Option Int32} (hR : fX11_thread N S p1 p2 = some r) : KT l D dA ad t1 t2 sa yX11_thread cX11_thread 3 { frames := 8, cells := 1, slots := 6, locals := 120 } [.ref (ad 0), .int p1, .int p2] S T o r := by
  intro sz
  refine enT (by decide) (Nat.le_of_ble_eq_true rfl) ?_
  intro p ev s m args below meth c QQ hQ hsz X hr hlk htab hE w ls hl
  have hx := X.1
  have hb := X.2.1
  have hl : lv_has ls 3 [(0, .ref (ad 0)), (1, .int p1), (2, .int p2)] := hl
  unfold fX11_thread at hR
  refine lv_aload_n hx hb dX11_thread_0 rfl (lv_at hl 0 rfl) ?_
  refine gX11_mill X w lfX11_19 dX11_thread_1 ?_
  refine lv_iload_n hx hb dX11_thread_4 rfl (lv_at hl 1 rfl) ?_
  obtain ⟨r2, h1, hR⟩ := bd_e hR
  refine cVi (k := 3) (As := [.int p1]) (rest := []) X hl.1 w okX5_has (obX5 (Or.inl rfl)) rfl lmX11_171 (kX5_has (Or.inl rfl) h1) ⟨Nat.le_of_ble_eq_true rfl, Nat.le_of_ble_eq_true rfl⟩ ⟨rfl, rfl⟩ ⟨Nat.zero_le _, Nat.zero_le _⟩ rfl rfl (Nat.le_of_ble_eq_true rfl) dX11_thread_5 (fun H locs zr2 w => ?_)
  refine lv_if_eq (tgt := 20) hx hb dX11_thread_8 (by decide) (fun c3 => ?_) (fun c3 => ?_)
  · rw [if_pos c3] at hR
    rw [hQ]
    exact thX X hlk hst htab hE hl.1 w hsz (lf1 hR).symm dX11_thread_20 dX11_thread_23 dX11_thread_24 dX11_thread_26 dX11_thread_29
  · rw [if_neg c3] at hR
    refine lv_iload_n hx hb dX11_thread_11 rfl (lv_at hl 2 rfl) ?_
    refine lv_if_lt (tgt := 20) hx hb dX11_thread_12 (by decide) (fun c4 => ?_) (fun c4 => ?_)
    · rw [if_pos c4] at hR
      rw [hQ]
      exact thX X hlk hst htab hE hl.1 w hsz (lf1 hR).symm dX11_thread_20 dX11_thread_23 dX11_thread_24 dX11_thread_26 dX11_thread_29
    · rw [if_neg c4] at hR
      refine lv_iload_n hx hb dX11_thread_15 rfl (lv_at hl 2 rfl) ?_
      refine lv_iconst (v := 5) hx hb dX11_thread_16 (by decide) ?_
      refine lv_icmp_le (tgt := 30) hx hb dX11_thread_17 (by decide) (fun c5 => ?_) (fun c5 => ?_)
      · rw [if_pos c5] at hR
        refine lv_iload_n hx hb dX11_thread_30 rfl (lv_at hl 2 rfl) ?_
        by_cases c6_0 : p2 = 0
        · rw [if_pos c6_0] at hR
          refine lv_tableIn (tgt := 64) hx hb dX11_thread_31 (by rw [c6_0]; decide) (by rw [c6_0]; decide) (by rw [c6_0]; rfl) (by decide) ?_
          refine lv_aload_n hx hb dX11_thread_64 rfl (lv_at hl 0 rfl) ?_
          refine gX11_now X w lfX11_51 dX11_thread_65 ?_
          refine gX8_colours (Or.inl rfl) X w lfX11_182 dX11_thread_68 ?_
          refine lv_iload_n hx hb dX11_thread_71 rfl (lv_at hl 1 rfl) ?_
          obtain ⟨g7, hR⟩ := ck_e hR
          refine ialS (n := 7) rfl (by decide) X w rfl g7 dX11_thread_72 ?_
          rw [hQ]
          refine vx_ret (W.widen (k := 1) (n := 6) (Nat.zero_le _) (Nat.zero_le _) ?_)
          exact rtT X hr hlk w hsz (lf1 hR) dX11_thread_73
        · rw [if_neg c6_0] at hR
          by_cases c6_1 : p2 = 1
          · rw [if_pos c6_1] at hR
            refine lv_tableIn (tgt := 74) hx hb dX11_thread_31 (by rw [c6_1]; decide) (by rw [c6_1]; decide) (by rw [c6_1]; rfl) (by decide) ?_
            refine lv_aload_n hx hb dX11_thread_74 rfl (lv_at hl 0 rfl) ?_
            refine gX11_mill X w lfX11_19 dX11_thread_75 ?_
            refine gX5_plies (Or.inl rfl) X w lfX11_185 dX11_thread_78 ?_
            refine lv_iload_n hx hb dX11_thread_81 rfl (lv_at hl 1 rfl) ?_
            obtain ⟨g8, hR⟩ := ck_e hR
            refine ialS (n := 7) rfl (by decide) X w rfl g8 dX11_thread_82 ?_
            rw [hQ]
            refine vx_ret (W.widen (k := 1) (n := 6) (Nat.zero_le _) (Nat.zero_le _) ?_)
            exact rtT X hr hlk w hsz (lf1 hR) dX11_thread_83
          · rw [if_neg c6_1] at hR
            by_cases c6_2 : p2 = 2
            · rw [if_pos c6_2] at hR
              refine lv_tableIn (tgt := 84) hx hb dX11_thread_31 (by rw [c6_2]; decide) (by rw [c6_2]; decide) (by rw [c6_2]; rfl) (by decide) ?_
              refine lv_aload_n hx hb dX11_thread_84 rfl (lv_at hl 0 rfl) ?_
              refine gX11_now X w lfX11_51 dX11_thread_85 ?_
              refine gX8_lengths (Or.inl rfl) X w lfX11_188 dX11_thread_88 ?_
              refine lv_iload_n hx hb dX11_thread_91 rfl (lv_at hl 1 rfl) ?_
              obtain ⟨g9, hR⟩ := ck_e hR
              refine ialS (n := 7) rfl (by decide) X w rfl g9 dX11_thread_92 ?_
              rw [hQ]
              refine vx_ret (W.widen (k := 1) (n := 6) (Nat.zero_le _) (Nat.zero_le _) ?_)
              exact rtT X hr hlk w hsz (lf1 hR) dX11_thread_93
            · rw [if_neg c6_2] at hR
              by_cases c6_3 : p2 = 3
              · rw [if_pos c6_3] at hR
                refine lv_tableIn (tgt := 94) hx hb dX11_thread_31 (by rw [c6_3]; decide) (by rw [c6_3]; decide) (by rw [c6_3]; rfl) (by decide) ?_
                refine lv_aload_n hx hb dX11_thread_94 rfl (lv_at hl 0 rfl) ?_
                refine gX11_now X w lfX11_51 dX11_thread_95 ?_
                refine lv_iload_n hx hb dX11_thread_98 rfl (lv_at hl 1 rfl) ?_
                obtain ⟨r11, h10, hR⟩ := bd_e hR
                refine cVi (k := 18) (As := [.int p1]) (rest := []) X hl.1 w okX8_isSold (obX8 (Or.inl rfl)) rfl lmX11_191 (kX8_isSold (Or.inl rfl) h10) ⟨Nat.le_of_ble_eq_true rfl, Nat.le_of_ble_eq_true rfl⟩ ⟨rfl, rfl⟩ ⟨Nat.zero_le _, Nat.zero_le _⟩ rfl rfl (Nat.le_of_ble_eq_true rfl) dX11_thread_99 (fun H locs zr11 w => ?_)
                refine lv_if_eq (tgt := 109) hx hb dX11_thread_102 (by decide) (fun c12 => ?_) (fun c12 => ?_)
                · rw [if_pos c12] at hR
                  refine lv_iconst (v := 0) hx hb dX11_thread_109 (by decide) ?_
                  rw [hQ]
                  refine vx_ret (W.widen (k := 1) (n := 6) (Nat.zero_le _) (Nat.zero_le _) ?_)
                  exact rtT X hr hlk w hsz (lf1 hR) dX11_thread_110
                · rw [if_neg c12] at hR
                  refine lv_iconst (v := 1) hx hb dX11_thread_105 (by decide) ?_
                  refine lv_goto (tgt := 110) hx hb dX11_thread_106 (by decide) ?_
                  rw [hQ]
                  refine vx_ret (W.widen (k := 1) (n := 6) (Nat.zero_le _) (Nat.zero_le _) ?_)
                  exact rtT X hr hlk w hsz (lf1 hR) dX11_thread_110
              · rw [if_neg c6_3] at hR
                by_cases c6_4 : p2 = 4
                · rw [if_pos c6_4] at hR
                  refine lv_tableIn (tgt := 111) hx hb dX11_thread_31 (by rw [c6_4]; decide) (by rw [c6_4]; decide) (by rw [c6_4]; rfl) (by decide) ?_
                  refine lv_aload_n hx hb dX11_thread_111 rfl (lv_at hl 0 rfl) ?_
                  refine gX11_now X w lfX11_51 dX11_thread_112 ?_
                  refine gX8_behind (Or.inl rfl) X w lfX11_194 dX11_thread_115 ?_
                  refine lv_iload_n hx hb dX11_thread_118 rfl (lv_at hl 1 rfl) ?_
                  obtain ⟨g13, hR⟩ := ck_e hR
                  refine ialS (n := 7) rfl (by decide) X w rfl g13 dX11_thread_119 ?_
                  rw [hQ]
                  refine vx_ret (W.widen (k := 1) (n := 6) (Nat.zero_le _) (Nat.zero_le _) ?_)
                  exact rtT X hr hlk w hsz (lf1 hR) dX11_thread_120
                · rw [if_neg c6_4] at hR
                  have hh0 := ne_int (n := 0) (by decide) c6_0
                  have hh1 := ne_int (n := 1) (by decide) c6_1
                  have hh2 := ne_int (n := 2) (by decide) c6_2
                  have hh3 := ne_int (n := 3) (by decide) c6_3
                  have hh4 := ne_int (n := 4) (by decide) c6_4
                  refine lv_tableOut (tgt := 121) hx hb dX11_thread_31 (by omega) (by decide) ?_
                  refine lv_aload_n hx hb dX11_thread_121 rfl (lv_at hl 0 rfl) ?_
                  refine gX11_now X w lfX11_51 dX11_thread_122 ?_
                  refine gX8_ahead (Or.inl rfl) X w lfX11_197 dX11_thread_125 ?_
                  refine lv_iload_n hx hb dX11_thread_128 rfl (lv_at hl 1 rfl) ?_
                  obtain ⟨g14, hR⟩ := ck_e hR
                  refine ialS (n := 7) rfl (by decide) X w rfl g14 dX11_thread_129 ?_
                  rw [hQ]
                  refine vx_ret (W.widen (k := 1) (n := 6) (Nat.zero_le _) (Nat.zero_le _) ?_)
                  exact rtT X hr hlk w hsz (lf1 hR) dX11_thread_130
      · rw [if_neg c5] at hR
        rw [hQ]
        exact thX X hlk hst htab hE hl.1 w hsz (lf1 hR).symm dX11_thread_20 dX11_thread_23 dX11_thread_24 dX11_thread_26 dX11_thread_29
def thR (v : Option Int32) : Int32 := match v with
  | some _ => 0
  | none => 1
def thO (v : Option Int32) (o : Nat → Int64) : Nat → Int64 := match v with
  | some x => vp_updL o 0 x.toInt64
  | none => o
theorem decL_0 : decode cL_thread 0 = .ok (.aload_n 3, 1) := by decide +kernel
theorem decL_1 : decode cL_thread 1 = .ok (.iconst 0, 1) := by decide +kernel
theorem decL_2 : decode cL_thread 2 = .ok (.aload_n 0, 1) := by decide +kernel
theorem decL_3 : decode cL_thread 3 = .ok (.iload_n 1, 1) := by decide +kernel
theorem decL_4 : decode cL_thread 4 = .ok (.iload_n 2, 1) := by decide +kernel
theorem decL_5 : decode cL_thread 5 = .ok (.invokevirtual 7, 3) := by decide +kernel
theorem decL_8 : decode cL_thread 8 = .ok (.i2l, 1) := by decide +kernel
theorem decL_9 : decode cL_thread 9 = .ok (.lastore, 1) := by decide +kernel
theorem decL_10 : decode cL_thread 10 = .ok (.goto 7, 3) := by decide +kernel
theorem decL_13 : decode cL_thread 13 = .ok (.astore 4, 2) := by decide +kernel
theorem decL_15 : decode cL_thread 15 = .ok (.iconst 1, 1) := by decide +kernel
theorem decL_16 : decode cL_thread 16 = .ok (.ireturn, 1) := by decide +kernel
theorem decL_17 : decode cL_thread 17 = .ok (.iconst 0, 1) := by decide +kernel
theorem decL_18 : decode cL_thread 18 = .ok (.ireturn, 1) := by decide +kernel
theorem cwL : Cond.codeWith yL_thread cL_thread 5 (some .int) [(0, 10, 13, 13)] ∈ BG := bg_t5 (i := 149) (by rfl) rfl
theorem PRET.blind {D : va_G} {dA : Nat → ClassId} {ad : Nat → Nat} {t1 t2 sa : Nat} {S T : SS} {o : Nat → Int64} {sz : Nat} {av : List Value} : FrameBlind (va_Pc av (fun U => PRE D dA ad t1 t2 S T o sz U ∧ EXT sa (AA ad sz) U U.heap)) := by
  intro a U g mk q
  exact ⟨q.1, (PRE.blind (av := av) a U g mk ⟨q.1, q.2.1⟩).2, q.2.2.call⟩
set_option maxHeartbeats 4000000 in
set_option maxRecDepth 100000 in
theorem kL_thread {l : Launch} {D : va_G} {dA : Nat → ClassId} {ad : Nat → Nat} {t1 t2 sa N sz : Nat} (hst : l.stackTraces = false) {S T : SS} {o : Nat → Int64} {p1 p2 : Int32} {v : Option Int32} (hR : fX11_thread N S p1 p2 = some v) :
    Met l yL_thread (.codeWith yL_thread cL_thread 5 (some .int) [(0, 10, 13, 13)] :: BG) { frames := 10, cells := 1, slots := 6, locals := 200 } (va_Pc [.ref (ad 0), .int p1, .int p2, .ref (ad 78)] (fun U => PRE D dA ad t1 t2 S T o sz U ∧ EXT sa (AA ad sz) U U.heap)) (va_Qi (fun r' u => r' = thR v ∧ u = (S, T, thO v o)) (POS D dA ad (AA ad sz)) (AA ad sz)) 1 6 (AA ad sz) := by
  refine va_MetW (cc := cL_thread) (maxL := 5) (ret := some .int) (hh := [(0, 10, 13, 13)]) (by decide) rfl ?_
  intro p ev s m args below meth c s₁ B hml hv
  obtain ⟨rfl, hP, hE⟩ := hv
  obtain ⟨rfl, w⟩ := hP.wd
  have hts0 := atoms_spec (ws := .codeWith yL_thread cL_thread 5 (some .int) [(0, 10, 13, 13)] :: BG) B.pre
  have hown : s.vm.findClass RL = some m.cls := findClass_of_methodNamed B.named
  have X : CallFix p m c cL_thread 5 s (#[.ref (ad 0), .int p1, .int p2, .ref (ad 78)]) BG RL := ⟨B.exec, B.bytes, hml, hown, fun w hw => hts0 w (List.mem_cons_of_mem _ hw)⟩
  have htb : c.exceptionTable.toList = tableOf [(0, 10, 13, 13)] := vx_table (x := yL_thread) B (hts0 _ List.mem_cons_self)
  have hr := B.returns
  have hlk := B.notSynchronized
  have hx := X.1
  have hb := X.2.1
  have hl := lv_entry [.ref (ad 0), .int p1, .int p2, .ref (ad 78)] (n := 5) (Nat.le_of_ble_eq_true rfl)
  rw [lg_entry_eq]
  generalize (lg_sl [Value.ref (ad 0), .int p1, .int p2, .ref (ad 78)] ++ List.replicate (5 - (lg_sl [Value.ref (ad 0), .int p1, .int p2, .ref (ad 78)]).length) Slot.unset).toArray = ls at hl ⊢
  have hl : lv_has ls 5 [(0, .ref (ad 0)), (1, .int p1), (2, .int p2), (3, .ref (ad 78))] := hl
  refine lv_aload_n hx hb decL_0 rfl (lv_at hl 3 rfl) ?_
  refine lv_iconst (v := 0) hx hb decL_1 (by decide) ?_
  refine lv_aload_n hx hb decL_2 rfl (lv_at hl 0 rfl) ?_
  refine lv_iload_n hx hb decL_3 rfl (lv_at hl 1 rfl) ?_
  refine lv_iload_n hx hb decL_4 rfl (lv_at hl 2 rfl) ?_
  refine vx_calli (vx_runV (As := [.int p1, .int p2]) (rest := [.int 0, .ref (ad 78)]) X (kX11_thread (sa := sa) hst hR s.heap.size) (cwV 2 X.2.2.2.2 (gV okX11_thread lmL_7) rfl rfl rfl okX11_thread.2 ⟨Nat.le_of_ble_eq_true rfl, Nat.le_of_ble_eq_true rfl⟩) ⟨PRET.blind, va_recv w.1 w.2.1 rfl obX11, fun U hU hWm => ⟨rfl, w.pre hU hWm.alike, by rw [hU]; exact hE.to hWm (fun _ _ _ => rfl) (fun _ h => h)⟩⟩ rfl rfl hl.1 rfl (lv_room (Nat.le_of_ble_eq_true rfl)) decL_5 ⟨Nat.le_of_ble_eq_true rfl, Nat.le_of_ble_eq_true rfl⟩) w.2.2.2.1 (fun q _ h => w.aa q h) w.aa (fun q _ h => w.aa q h) (fun E ce q9 u t H locs ht hvm hp hB hz1 hk1 hS hce hcv hcl => ?_) (fun r u t H locs ht hvm hp hB hz1 hk1 hS => ?_)
  · obtain ⟨hv, rfl⟩ := hp
    obtain ⟨rfl, hB⟩ := hB
    have w := w.pos ht hvm hB hS
    refine vx_widen (k := 1) (n := 6) (Nat.le_of_ble_eq_true rfl) (Nat.le_of_ble_eq_true rfl) ?_
    refine vx_catch (own := RL) (name := NSE) X.2.2.2.1 [] { startPc := 0, endPc := 10, handlerPc := 13, catchType := 13 } [] (by rw [htb]; rfl) (fun z hz => nomatch hz) (by decide) (by decide) (X.2.2.2.2 _ clL_13) (va_Nw.use rfl hE.1.1) hce hcv hcl ?_
    refine lv_astore (lv' := [(4, .ref q9), (0, .ref (ad 0)), (1, .int p1), (2, .int p2), (3, .ref (ad 78))]) hx hb decL_13 hl (by decide) rfl (fun ls hl => ?_)
    refine lv_iconst (v := 1) hx hb decL_15 (by decide) ?_
    subst hv
    exact W.iret (v := 1) hx hb hr (fun t ht hW => ⟨⟨1, (S, T, o), rfl, ⟨rfl, rfl⟩, by rw [ht]; exact w.2.1, va_K.moved hW.alike w.1, w.2.2.1⟩, w.2.2.2.1.F ht⟩) w.2.2.2.1.2.2 decL_16
  · obtain ⟨hv, rfl⟩ := hp
    have w := w.pos ht hvm hB hS
    refine W.widen (k := 1) (n := 6) (Nat.le_of_ble_eq_true rfl) (Nat.le_of_ble_eq_true rfl) ?_
    refine lv_i2l hx hb decL_8 rfl ?_
    refine lasO X w rfl decL_9 (fun H locs w => ?_)
    refine lv_goto (tgt := 17) hx hb decL_10 (by decide) ?_
    refine lv_iconst (v := 0) hx hb decL_17 (by decide) ?_
    subst hv
    exact W.iret (v := 0) hx hb hr (fun t ht hW => ⟨⟨0, (S, T, thO (some r) o), rfl, ⟨rfl, rfl⟩, by rw [ht]; exact w.2.1, va_K.moved hW.alike w.1, w.2.2.1⟩, w.2.2.2.1.F ht⟩) w.2.2.2.1.2.2 decL_18
