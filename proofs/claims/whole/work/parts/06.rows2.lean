abbrev mx (x y : Int32) : Int32 := if x < y then y else x
abbrev mn (x y : Int32) : Int32 := if y < x then y else x
abbrev ab (x : Int32) : Int32 := if 0 ≤ x then x else 0 - x
abbrev lmx (x y : Int64) : Int64 := if y < x then x else y
abbrev lmn (x y : Int64) : Int64 := if y < x then y else x
abbrev ir (x y : Int32) : Int32 := x - x / y * y
abbrev lrm (x y : Int64) : Int64 := x - x / y * y
abbrev sl (x y : Int32) : Int32 := x <<< (y &&& 31)
abbrev sr (x y : Int32) : Int32 := x >>> (y &&& 31)
abbrev iu (x y : Int32) : Int32 := (x.toUInt32 >>> (y.toUInt32 &&& Int32.toUInt32 31)).toInt32
abbrev lus (x : Int64) (y : Int32) : Int64 := (x.toUInt64 >>> (y.toInt64.toUInt64 &&& Int64.toUInt64 63)).toInt64
section RX
variable {p : Program} {l : Launch} {e : Env} {R : Room} {s : State} {m : MethodId} {args : Array Value} {below : List Frame} {meth : Method} {c : Code} {H : Heap} {locs : List Loc} {cells slots : Nat} {Q : State → Prop}
variable {cc : ByteArray} {pc nL : Nat} {ls : Array Slot} {rest : List Value} {D : va_G} {dA : Nat → ClassId} {ad : Nat → Nat} {t1 t2 : Nat} {A : Nat → Prop} {S T : SS} {o : Nat → Int64} {own : String} {index : Nat}

theorem mxI {x y : Int32} (X : CallFix p m c cc nL s args BG own) (hls : ls.size = nL) (hlink : Cond.methodLink own index yJ9_max_7cf53 ∈ BG) (hR : 1 ≤ R.frames ∧ (rest.map fun v => v.category).sum + 13 ≤ R.locals) (hcl : cells ≤ R.cells ∧ slots ≤ R.slots) (hdg : decode cc pc = .ok (.invokestatic index, 3)) (kk : W p l e R s m args below meth c H locs cells slots Q (F0 m (pc + 3) ls (.int (mx x y) :: rest))) : W p l e R s m args below meth c H locs cells slots Q (F0 m pc ls (.int y :: .int x :: rest)) :=
  va_mmax X.1 X.2.1 (by rw [hls]; exact X.2.2.1) X.2.2.2.1 (X.2.2.2.2 _ hlink) (X.2.2.2.2 _ okJ9_max_7cf53.1.1) (X.2.2.2.2 _ liJ9) (X.2.2.2.2 _ okJ9_max_7cf53.1.2.2) hR.1 hR.2 hcl.1 hcl.2 hdg kk
theorem mnI {x y : Int32} (X : CallFix p m c cc nL s args BG own) (hls : ls.size = nL) (hlink : Cond.methodLink own index yJ9_min_7cf53 ∈ BG) (hR : 1 ≤ R.frames ∧ (rest.map fun v => v.category).sum + 13 ≤ R.locals) (hcl : cells ≤ R.cells ∧ slots ≤ R.slots) (hdg : decode cc pc = .ok (.invokestatic index, 3)) (kk : W p l e R s m args below meth c H locs cells slots Q (F0 m (pc + 3) ls (.int (mn x y) :: rest))) : W p l e R s m args below meth c H locs cells slots Q (F0 m pc ls (.int y :: .int x :: rest)) :=
  va_mmin X.1 X.2.1 (by rw [hls]; exact X.2.2.1) X.2.2.2.1 (X.2.2.2.2 _ hlink) (X.2.2.2.2 _ okJ9_min_7cf53.1.1) (X.2.2.2.2 _ liJ9) (X.2.2.2.2 _ okJ9_min_7cf53.1.2.2) hR.1 hR.2 hcl.1 hcl.2 hdg kk
theorem abI {x : Int32} (X : CallFix p m c cc nL s args BG own) (hls : ls.size = nL) (hlink : Cond.methodLink own index yJ9_abs_0f7a4 ∈ BG) (hR : 1 ≤ R.frames ∧ (rest.map fun v => v.category).sum + 13 ≤ R.locals) (hcl : cells ≤ R.cells ∧ slots ≤ R.slots) (hdg : decode cc pc = .ok (.invokestatic index, 3)) (kk : W p l e R s m args below meth c H locs cells slots Q (F0 m (pc + 3) ls (.int (ab x) :: rest))) : W p l e R s m args below meth c H locs cells slots Q (F0 m pc ls (.int x :: rest)) :=
  va_mabs X.1 X.2.1 (by rw [hls]; exact X.2.2.1) X.2.2.2.1 (X.2.2.2.2 _ hlink) (X.2.2.2.2 _ okJ9_abs_0f7a4.1.1) (X.2.2.2.2 _ liJ9) (X.2.2.2.2 _ okJ9_abs_0f7a4.1.2.2) hR.1 hR.2 hcl.1 hcl.2 hdg kk
theorem mxL {x y : Int64} (X : CallFix p m c cc nL s args BG own) (hls : ls.size = nL) (hlink : Cond.methodLink own index yJ9_max_f86c9 ∈ BG) (hR : 1 ≤ R.frames ∧ (rest.map fun v => v.category).sum + 15 ≤ R.locals) (hcl : cells ≤ R.cells ∧ slots ≤ R.slots) (hdg : decode cc pc = .ok (.invokestatic index, 3)) (kk : W p l e R s m args below meth c H locs cells slots Q (F0 m (pc + 3) ls (.long (lmx x y) :: rest))) : W p l e R s m args below meth c H locs cells slots Q (F0 m pc ls (.long y :: .long x :: rest)) :=
  va_mmax_long X.1 X.2.1 (by rw [hls]; exact X.2.2.1) X.2.2.2.1 (X.2.2.2.2 _ hlink) (X.2.2.2.2 _ okJ9_max_f86c9.1.1) (X.2.2.2.2 _ liJ9) (X.2.2.2.2 _ okJ9_max_f86c9.1.2.2) hR.1 hR.2 hcl.1 hcl.2 hdg kk
theorem mnL {x y : Int64} (X : CallFix p m c cc nL s args BG own) (hls : ls.size = nL) (hlink : Cond.methodLink own index yJ9_min_f86c9 ∈ BG) (hR : 1 ≤ R.frames ∧ (rest.map fun v => v.category).sum + 15 ≤ R.locals) (hcl : cells ≤ R.cells ∧ slots ≤ R.slots) (hdg : decode cc pc = .ok (.invokestatic index, 3)) (kk : W p l e R s m args below meth c H locs cells slots Q (F0 m (pc + 3) ls (.long (lmn x y) :: rest))) : W p l e R s m args below meth c H locs cells slots Q (F0 m pc ls (.long y :: .long x :: rest)) :=
  va_mmin_long X.1 X.2.1 (by rw [hls]; exact X.2.2.1) X.2.2.2.1 (X.2.2.2.2 _ hlink) (X.2.2.2.2 _ okJ9_min_f86c9.1.1) (X.2.2.2.2 _ liJ9) (X.2.2.2.2 _ okJ9_min_f86c9.1.2.2) hR.1 hR.2 hcl.1 hcl.2 hdg kk
theorem gLs (X : CallFix p m c cc nL s args BG own) (w : WD D dA ad t1 t2 A s S T o H locs) (hlink : Cond.fieldLink own index "LooseEnds$MillReader" "LEAST" "[I" ∈ BG) (hdg : decode cc pc = .ok (.getstatic index, 3)) (kk : W p l e R s m args below meth c H locs cells slots Q (F0 m (pc + 3) ls (.ref t1 :: rest))) : W p l e R s m args below meth c H locs cells slots Q (F0 m pc ls rest) :=
  va_gets X.1 X.2.1 w.2.2.2.2.2.1.1 w.2.2.2.1 X.2.2.2.1 (X.2.2.2.2 _ hlink) (fun _ h9 => h9) hdg kk
theorem lgLs {i : Int32} (X : CallFix p m c cc nL s args BG own) (w : WD D dA ad t1 t2 A s S T o H locs) (hin : inb i 7 = true) (hdg : decode cc pc = .ok (.iaload, 1)) (kk : W p l e R s m args below meth c H locs cells slots Q (F0 m (pc + 1) ls (.int (vLs i.toNatClampNeg) :: rest))) : W p l e R s m args below meth c H locs cells slots Q (F0 m pc ls (.int i :: .ref t1 :: rest)) :=
  va_ti X.1 X.2.1 w.2.2.2.2.2.1.2 w.2.2.2.1 (inb_in hin) rfl hdg kk
theorem ngLs (X : CallFix p m c cc nL s args BG own) (w : WD D dA ad t1 t2 A s S T o H locs) (hdg : decode cc pc = .ok (.arraylength, 1)) (kk : W p l e R s m args below meth c H locs cells slots Q (F0 m (pc + 1) ls (.int 7 :: rest))) : W p l e R s m args below meth c H locs cells slots Q (F0 m pc ls (.ref t1 :: rest)) :=
  va_tlen X.1 X.2.1 w.2.2.2.2.2.1.2 w.2.2.2.1 rfl hdg kk
theorem gMs (X : CallFix p m c cc nL s args BG own) (w : WD D dA ad t1 t2 A s S T o H locs) (hlink : Cond.fieldLink own index "LooseEnds$MillReader" "MOST" "[I" ∈ BG) (hdg : decode cc pc = .ok (.getstatic index, 3)) (kk : W p l e R s m args below meth c H locs cells slots Q (F0 m (pc + 3) ls (.ref t2 :: rest))) : W p l e R s m args below meth c H locs cells slots Q (F0 m pc ls rest) :=
  va_gets X.1 X.2.1 w.2.2.2.2.2.2.1 w.2.2.2.1 X.2.2.2.1 (X.2.2.2.2 _ hlink) (fun _ h9 => h9) hdg kk
theorem lgMs {i : Int32} (X : CallFix p m c cc nL s args BG own) (w : WD D dA ad t1 t2 A s S T o H locs) (hin : inb i 7 = true) (hdg : decode cc pc = .ok (.iaload, 1)) (kk : W p l e R s m args below meth c H locs cells slots Q (F0 m (pc + 1) ls (.int (vMs i.toNatClampNeg) :: rest))) : W p l e R s m args below meth c H locs cells slots Q (F0 m pc ls (.int i :: .ref t2 :: rest)) :=
  va_ti X.1 X.2.1 w.2.2.2.2.2.2.2 w.2.2.2.1 (inb_in hin) rfl hdg kk
theorem ngMs (X : CallFix p m c cc nL s args BG own) (w : WD D dA ad t1 t2 A s S T o H locs) (hdg : decode cc pc = .ok (.arraylength, 1)) (kk : W p l e R s m args below meth c H locs cells slots Q (F0 m (pc + 1) ls (.int 7 :: rest))) : W p l e R s m args below meth c H locs cells slots Q (F0 m pc ls (.ref t2 :: rest)) :=
  va_tlen X.1 X.2.1 w.2.2.2.2.2.2.2 w.2.2.2.1 rfl hdg kk
theorem ikX8_1 {k : Nat} (hk : k = 18 ∨ k = 30) : inK (k + 1) = true := by
  rcases hk with rfl | rfl <;> rfl
theorem lkX8_1 {k : Nat} (hk : k = 18 ∨ k = 30) : k + 1 < 52 := by
  rcases hk with rfl | rfl <;> decide
theorem nkX8_1 {k : Nat} {ln : Nat → Nat} (hk : k = 18 ∨ k = 30) : aln ln (k + 1) = 7 := by
  rcases hk with rfl | rfl <;> rfl
theorem ikX8_2 {k : Nat} (hk : k = 18 ∨ k = 30) : inK (k + 2) = true := by
  rcases hk with rfl | rfl <;> rfl
theorem lkX8_2 {k : Nat} (hk : k = 18 ∨ k = 30) : k + 2 < 52 := by
  rcases hk with rfl | rfl <;> decide
theorem nkX8_2 {k : Nat} {ln : Nat → Nat} (hk : k = 18 ∨ k = 30) : aln ln (k + 2) = 7 := by
  rcases hk with rfl | rfl <;> rfl
theorem ikX8_3 {k : Nat} (hk : k = 18 ∨ k = 30) : inK (k + 3) = true := by
  rcases hk with rfl | rfl <;> rfl
theorem lkX8_3 {k : Nat} (hk : k = 18 ∨ k = 30) : k + 3 < 52 := by
  rcases hk with rfl | rfl <;> decide
theorem nkX8_3 {k : Nat} {ln : Nat → Nat} (hk : k = 18 ∨ k = 30) : aln ln (k + 3) = 7 := by
  rcases hk with rfl | rfl <;> rfl
theorem ikX8_4 {k : Nat} (hk : k = 18 ∨ k = 30) : inK (k + 4) = true := by
  rcases hk with rfl | rfl <;> rfl
theorem lkX8_4 {k : Nat} (hk : k = 18 ∨ k = 30) : k + 4 < 52 := by
  rcases hk with rfl | rfl <;> decide
theorem nkX8_4 {k : Nat} {ln : Nat → Nat} (hk : k = 18 ∨ k = 30) : aln ln (k + 4) = 7 := by
  rcases hk with rfl | rfl <;> rfl
theorem ikX5_1 {k : Nat} (hk : k = 3 ∨ k = 8) : inK (k + 1) = true := by
  rcases hk with rfl | rfl <;> rfl
theorem lkX5_1 {k : Nat} (hk : k = 3 ∨ k = 8) : k + 1 < 52 := by
  rcases hk with rfl | rfl <;> decide
theorem nkX5_1 {k : Nat} {ln : Nat → Nat} (hk : k = 3 ∨ k = 8) : aln ln (k + 1) = 7 := by
  rcases hk with rfl | rfl <;> rfl
theorem ikX5_2 {k : Nat} (hk : k = 3 ∨ k = 8) : inK (k + 2) = true := by
  rcases hk with rfl | rfl <;> rfl
theorem lkX5_2 {k : Nat} (hk : k = 3 ∨ k = 8) : k + 2 < 52 := by
  rcases hk with rfl | rfl <;> decide
theorem nkX5_2 {k : Nat} {ln : Nat → Nat} (hk : k = 3 ∨ k = 8) : aln ln (k + 2) = 7 := by
  rcases hk with rfl | rfl <;> rfl
theorem ikX5_3 {k : Nat} (hk : k = 3 ∨ k = 8) : inK (k + 3) = true := by
  rcases hk with rfl | rfl <;> rfl
theorem lkX5_3 {k : Nat} (hk : k = 3 ∨ k = 8) : k + 3 < 52 := by
  rcases hk with rfl | rfl <;> decide
theorem nkX5_3 {k : Nat} {ln : Nat → Nat} (hk : k = 3 ∨ k = 8) : aln ln (k + 3) = 7 := by
  rcases hk with rfl | rfl <;> rfl
theorem inb_lt {i : Int32} {n : Nat} (h : inb i n = true) : i.toNatClampNeg < n := by
  simp only [inb, Bool.and_eq_true, decide_eq_true_eq] at h
  exact h.2
theorem ikL {i : Int32} (g : inb i 4 = true) : inK (48 + i.toNatClampNeg) = true := by
  have := inb_lt g
  rcases (show i.toNatClampNeg = 0 ∨ i.toNatClampNeg = 1 ∨ i.toNatClampNeg = 2 ∨ i.toNatClampNeg = 3 by omega) with h | h | h | h <;> rw [h] <;> rfl
theorem lkL {i : Int32} (g : inb i 4 = true) : 48 + i.toNatClampNeg < 52 := by
  have := inb_lt g
  omega
theorem ne_int {x v : Int32} {n : Int} (hn : v.toInt = n) (h : ¬ x = v) : x.toInt ≠ n := fun q => h (Int32.toInt_inj.mp (q.trans hn.symm))
theorem lw4_at (ad : Nat → Nat) {i : Nat} (h : i < 4) : lw4 (ad 48) (ad 49) (ad 50) (ad 51) i = some (ad (48 + i)) := by
  rcases (show i = 0 ∨ i = 1 ∨ i = 2 ∨ i = 3 by omega) with rfl | rfl | rfl | rfl <;> rfl
theorem aal {i : Int32} (X : CallFix p m c cc nL s args BG own) (w : WD D dA ad t1 t2 A s S T o H locs) (hin : inb i 4 = true) (hdg : decode cc pc = .ok (.aaload, 1)) (kk : W p l e R s m args below meth c H locs cells slots Q (F0 m (pc + 1) ls (.ref (ad (48 + i.toNatClampNeg)) :: rest))) : W p l e R s m args below meth c H locs cells slots Q (F0 m pc ls (.int i :: .ref (ad 15) :: rest)) := by
  have hlt := inb_lt hin
  have ha : (wsA dA ad S T o)[15]? = some (ad 15, .inl (dA 15, 4, .inr (.inr (.inr (.inr (lw4 (ad 48) (ad 49) (ad 50) (ad 51))))))) := (ws_at (by decide)).trans rfl
  exact W.aald (v := va_rf ((lw4 (ad 48) (ad 49) (ad 50) (ad 51)) i.toNatClampNeg)) (ty := .array .int) X.1 X.2.1 (w.2.1 15 _ ha) ((w.1.2 15 _ (ty_at (by decide))).1 4 (fun j => va_rf ((lw4 (ad 48) (ad 49) (ad 50) (ad 51)) j))) rfl (fun q => by cases q) (by show ¬ (i < 0 ∨ (arrV _ _ _).slots.size ≤ _); rw [arrV_size]; exact inb_in hin) (by show (arrV _ _ _).slots[_]? = _; rw [arrV_read _ _ hlt]) rfl rfl hdg (by rw [lw4_at ad hlt]; exact kk)
theorem ikM {q : Nat} (hq : q = 63 ∨ q = 64) : inK q = true := by
  rcases hq with rfl | rfl <;> rfl
theorem lkM {q : Nat} (hq : q = 63 ∨ q = 64) : 52 ≤ q := by
  rcases hq with rfl | rfl <;> decide
theorem nkM {q : Nat} {ln : Nat → Nat} (hq : q = 63 ∨ q = 64) : aln ln q = aln (fun _ => 0) q := by
  rcases hq with rfl | rfl <;> rfl
def isb (v : Int32) : Bool := decide (v = 0) || decide (v = 1)
theorem isb_n {v : Int32} (h : isb v = true) : narrow .boolean (.int v) = .int v := by
  simp only [isb, Bool.or_eq_true, decide_eq_true_eq] at h
  rcases h with rfl | rfl <;> rfl
end RX
