/-! THE CLAIM OUT OF ONE WALK OF THE LAW'S BODY. Your part is whole_start (and what it stands on); all else here is the same for every law, but numbers. -/
def R_law : String := "LooseEndsLaw"
def lw_P (b : Addr) (xs : List Int32) (args : Array Value) (s : State) : Prop := args = #[.ref b] ∧ s.IntsAt b xs ∧ xs.length ≤ 3072 ∧ (Jvm.Cond.and given_1 narrow_1).before args s = true
def lw_Q (_ : Array Value) (s : State) (o : Outcome) (t : State) : Prop := o = .returned (some (.int 1)) ∧ Framed s o t [] 601024 7293034
def lw_Z (below : List Frame) (a : Array Value) (s : State) : State → Prop := fun t => ∃ o, t.status = .running ∧ Ended t below o ∧ lw_Q a s o t
/-- the law's own end, with 1 on the stack, nothing written that was there before, its room as the claim has it -/
theorem lw_ret {p : Program} {l : Launch} {e : Env} {s : State} {m : MethodId} {below : List Frame} {meth : Method} {c : Code} {b : Nat} (hx : p.tables.exec = Jvm.exec) (hb : c.code = code) (hr : meth.sig.returnType = ret) (hlocks : meth.locks = false) {pc : Nat} {H : Heap} {ls : Array Slot} (hdg : decode code pc = .ok (.ireturn, 1)) : W p l e room_1 s m #[Value.ref b] below meth c H [] 601024 7293034 (lw_Z below #[Value.ref b] s) (F0 m pc ls [.int 1]) := by
  intro T hT X
  obtain ⟨fs, hret, hrun, hended, hW, hframe⟩ := X.leave (v := some (.int 1)) (hlocks := hlocks) (fun h => by rw [hr] at h; cases h)
  have hmeth' : T.vm.method? m = some meth := X.method'
  refine ⟨T.setFrames fs, ?_, .returned (some (.int 1)), hrun, hended, rfl, ⟨_, rfl⟩, hW, hframe⟩
  jvm_step X.here [X.here.top, hx, hb, hdg, hmeth', hr, ret, narrow_b1]
  (try refine ⟨rfl, ?_⟩); (try refine ⟨rfl, ?_⟩)
  first | (intro acts; rw [hret _ acts rfl rfl rfl]) | rw [hret _ _ rfl rfl rfl]
  exact Steps.refl _
/-- what holds at the law's entry: the machine, the code, the tables' words (any of lw_tbl by 'hts w (by decide +kernel)'), the script of L ints xs at the cell b, what the Statement gives of the start (any of its parts by flat_of_before) -/
def lw_At (p : Program) (s : State) (m : MethodId) (meth : Method) (c : Code) (b L : Nat) (xs : Nat → Int32) : Prop :=
  p.tables.exec = Jvm.exec ∧ c.code = code ∧ meth.sig.returnType = ret ∧ c.maxLocals = 7 ∧ s.vm.findClass R_law = some m.cls ∧ (∀ w ∈ lw_tbl, w.before #[Value.ref b] s = true) ∧ va_X b L xs s s.heap ∧ b < s.heap.size ∧ meth.locks = false ∧ (Jvm.Cond.and given_1 narrow_1).before #[Value.ref b] s = true
/-- what the two systems owe each other: from related states each call answers alike, and the states are related again -/
def SIM (N : Nat) (Rel : SS → SS → Prop) : Prop :=
  (∀ S T, Rel S T → ∀ (a1 : Int32) (a2 : Int32) (a3 : Int32) (a4 : Int32) (a5 : Int32), ∃ (r : Int32) (S' T' : SS), (fX11_feed N S a1 a2 a3 a4 a5 = some (S', r)) ∧ (fX12_feed N T a1 a2 a3 a4 a5 = some (T', r)) ∧ Rel S' T') ∧
  (∀ S T, Rel S T → ∀ (a1 : Int32), ∃ (r : Int32) (S' T' : SS), (fX11_end N S a1 = some (S', r)) ∧ (fX12_end N T a1 = some (T', r)) ∧ Rel S' T') ∧
  (∀ S T, Rel S T → ∀ (a1 : Int32), ∃ (r : Int32) (S' T' : SS), (fX11_fault N S a1 = some (S', r)) ∧ (fX12_fault N T a1 = some (T', r)) ∧ Rel S' T') ∧
  (∀ S T, Rel S T → ∀ (a1 : Int32), ∃ (r : Int32) (S' T' : SS), (fX11_text N S a1 = some (S', r)) ∧ (fX12_text N T a1 = some (T', r)) ∧ Rel S' T') ∧
  (∀ S T, Rel S T → ∀ (a1 : Int32), ∃ (r : Int32) (S' T' : SS), (fX11_rule N S a1 = some r ∧ S' = S) ∧ (fX12_rule N T a1 = some r ∧ T' = T) ∧ Rel S' T') ∧
  (∀ S T, Rel S T → ∀ a1 a2 : Int32, ∃ (v : Option Int32) (b : Int32) (T' : SS), fX11_thread N S a1 a2 = some v ∧ fX12_thread N T a1 a2 = some (T', b) ∧ fX12_thrown N T' = some (thR v) ∧ (∀ x, v = some x → x = b) ∧ Rel S T') ∧
  (∀ S T, Rel S T → ∀ (a1 : Int32), ∃ (r : Int32) (S' T' : SS), (fX11_law N S a1 = some (S', r)) ∧ (fX12_law N T a1 = some (T', r)) ∧ Rel S' T') ∧
  (∀ S T, Rel S T → ∀ (a1 : Int32) (a2 : Int32), ∃ (r : Int32) (S' T' : SS), (fX11_attempt N S a1 a2 = some (S', r)) ∧ (fX12_attempt N T a1 a2 = some (T', r)) ∧ Rel S' T') ∧
  (∀ S T, Rel S T → ∀ (a1 : Int32), ∃ (r : Int32) (S' T' : SS), (fX11_pull N S a1 = some (S', r)) ∧ (fX12_pull N T a1 = some (T', r)) ∧ Rel S' T') ∧
  (∀ S T, Rel S T → ∀ (a1 : Int32), ∃ (r : Int32) (S' T' : SS), (fX11_sell N S a1 = some (S', r)) ∧ (fX12_sell N T a1 = some (T', r)) ∧ Rel S' T') ∧
  (∀ S T, Rel S T → ∀ (a1 : Int32) (a2 : Int32), ∃ (r : Int32) (S' T' : SS), (fX11_dye N S a1 a2 = some (S', r)) ∧ (fX12_dye N T a1 a2 = some (T', r)) ∧ Rel S' T') ∧
  (∀ S T, Rel S T → ∀ (a1 : Int32), ∃ (r : Int32) (S' T' : SS), (fX11_give N S a1 = some (S', r)) ∧ (fX12_give N T a1 = some (T', r)) ∧ Rel S' T') ∧
  (∀ S T, Rel S T → ∀ (a1 : Int32), ∃ (r : Int32) (S' T' : SS), (fX11_days N S a1 = some (S', r)) ∧ (fX12_days N T a1 = some (T', r)) ∧ Rel S' T') ∧
  (∀ S T, Rel S T → ∀ (a1 : Int32), ∃ (r : Int32) (S' T' : SS), (fX11_wakes N S a1 = some (S', r)) ∧ (fX12_wakes N T a1 = some (T', r)) ∧ Rel S' T') ∧
  (∀ S T, Rel S T → ∀ (a1 : Int32) (a2 : Int64), ∃ (r : Int32) (S' T' : SS), (fX11_years N S a1 a2 = some (S', r)) ∧ (fX12_years N T a1 a2 = some (T', r)) ∧ Rel S' T') ∧
  (∀ S T, Rel S T → ∀ (a1 : Int32), ∃ (r : Int32) (S' T' : SS), (fX11_status N S a1 = some r ∧ S' = S) ∧ (fX12_status N T a1 = some r ∧ T' = T) ∧ Rel S' T') ∧
  (∀ S T, Rel S T → ∃ (r : Int32) (S' T' : SS), (fX11_undo N S = some (S', r)) ∧ (fX12_undo N T = some (T', r)) ∧ Rel S' T') ∧
  (∀ S T, Rel S T → ∀ (a1 : Int32) (a2 : Int32), ∃ (r : Int32) (S' T' : SS), (fX11_log N S a1 a2 = some r ∧ S' = S) ∧ (fX12_log N T a1 a2 = some r ∧ T' = T) ∧ Rel S' T') ∧
  (∀ S T, Rel S T → ∀ (a1 : Int32) (a2 : Int32), ∃ (r : Int32) (S' T' : SS), (fX11_fits N S a1 a2 = some (S', r)) ∧ (fX12_fits N T a1 a2 = some (T', r)) ∧ Rel S' T') ∧
  (∀ S T, Rel S T → ∀ (a1 : Int32), ∃ (r : Int32) (S' T' : SS), (fX11_could N S a1 = some (S', r)) ∧ (fX12_could N T a1 = some (T', r)) ∧ Rel S' T') ∧
  (∀ S T, Rel S T → ∀ (a1 : Int32), ∃ (r : Int32) (S' T' : SS), (fX11_knots N S a1 = some (S', r)) ∧ (fX12_knots N T a1 = some (T', r)) ∧ Rel S' T') ∧
  (∀ S T, Rel S T → ∀ (a1 : Int32), ∃ (r : Int32) (S' T' : SS), (fX11_tale N S a1 = some (S', r)) ∧ (fX12_tale N T a1 = some (T', r)) ∧ Rel S' T') ∧
  (∀ S T, Rel S T → ∀ (a1 : Int32) (a2 : Int32), ∃ (r : Int32) (S' T' : SS), (fX11_plan N S a1 a2 = some (S', r)) ∧ (fX12_plan N T a1 a2 = some (T', r)) ∧ Rel S' T') ∧
  (∀ S T, Rel S T → ∀ (a1 : Int32), ∃ (r : Int32) (S' T' : SS), (fX11_blankets N S a1 = some (S', r)) ∧ (fX12_blankets N T a1 = some (T', r)) ∧ Rel S' T') ∧
  (∀ S T, Rel S T → ∀ (a1 : Int32) (a2 : Int32) (a3 : Int32), isb a3 = true → ∃ (r : Int32) (S' T' : SS), (fX11_seen N S a1 a2 a3 = some (S', r)) ∧ (fX12_seen N T a1 a2 a3 = some (T', r)) ∧ Rel S' T') ∧
  (∀ S T, Rel S T → ∀ (a1 : Int32) (a2 : Int32), ∃ (r : Int32) (S' T' : SS), (fX11_plies N S a1 a2 = some (S', r)) ∧ (fX12_plies N T a1 a2 = some (T', r)) ∧ Rel S' T') ∧
  (∀ S T, Rel S T → ∀ (a1 : Int32), ∃ (r : Int32) (S' T' : SS), (fX11_ask N S a1 = some (S', r)) ∧ (fX12_ask N T a1 = some (T', r)) ∧ Rel S' T') ∧
  (∀ S T, Rel S T → ∀ (a1 : Int32) (a2 : Int32) (a3 : Int32) (a4 : Int32) (a5 : Int32), ∃ (r : Int32) (S' T' : SS), (fX11_game N S a1 a2 a3 a4 a5 = some (S', r)) ∧ (fX12_game N T a1 a2 a3 a4 a5 = some (T', r)) ∧ Rel S' T') ∧
  (∀ S T, Rel S T → ∀ (a1 : Int32) (a2 : Int32) (a3 : Int32), ∃ (r : Int32) (S' T' : SS), (fX11_rests N S a1 a2 a3 = some (S', r)) ∧ (fX12_rests N T a1 a2 a3 = some (T', r)) ∧ Rel S' T') ∧
  (∀ S T, Rel S T → ∀ (a1 : Int32) (a2 : Int32), ∃ (r : Int32) (S' T' : SS), (fX11_odds N S a1 a2 = some (S', r)) ∧ (fX12_odds N T a1 a2 = some (T', r)) ∧ Rel S' T') ∧
  (∀ S T, Rel S T → ∀ (a1 : Int32) (a2 : Int32), ∃ (r : Int32) (S' T' : SS), (fX11_story N S a1 a2 = some r ∧ S' = S) ∧ (fX12_story N T a1 a2 = some r ∧ T' = T) ∧ Rel S' T') ∧
  (∀ S T, Rel S T → ∀ (a1 : Int32) (a2 : Int32), ∃ (r : Int32) (S' T' : SS), (fX11_shares N S a1 a2 = some r ∧ S' = S) ∧ (fX12_shares N T a1 a2 = some r ∧ T' = T) ∧ Rel S' T') ∧
  (∀ S T, Rel S T → ∀ (a1 : Int32), ∃ (r : Int32) (S' T' : SS), (fX11_most N S a1 = some (S', r)) ∧ (fX12_most N T a1 = some (T', r)) ∧ Rel S' T') ∧
  (∀ S T, Rel S T → ∃ (r : Int32) (S' T' : SS), (fX11_image N S = some (S', r)) ∧ (fX12_image N T = some (T', r)) ∧ Rel S' T') ∧
  (∀ S T, Rel S T → ∃ (r : Int32) (S' T' : SS), (fX11_back N S = some (S', r)) ∧ (fX12_back N T = some (T', r)) ∧ Rel S' T') ∧
  (∀ S T, Rel S T → ∀ (a1 : Int32), ∃ (r : Int32) (S' T' : SS), (fX11_count N S a1 = some r ∧ S' = S) ∧ (fX12_count N T a1 = some r ∧ T' = T) ∧ Rel S' T')
theorem gSW {own : String} {index : Nat} (hl : Cond.methodLink own index yL_thread ∈ BG) : GoodIn BG (va_wsS own index yL_thread (.codeWith yL_thread cL_thread 5 (some .int) [(0, 10, 13, 13)] :: BG)) := by
  intro w hw
  simp only [va_wsS, List.cons_append, List.nil_append, List.mem_cons] at hw
  rcases hw with rfl | rfl | rfl | rfl | hw
  · exact bg_good _ hl
  · exact bg_good _ (bg_t5 (i := 148) (by decide +kernel) rfl)
  · exact bg_good _ liL
  · exact bg_good _ cwL
  · exact bg_good _ hw
theorem nI6 {i L : Nat} (hL : L ≤ 3072) (hi : i ≤ 4000) (h : ¬ (Int32.ofNat L - 6) < nI i) : i + 6 ≤ L := by
  have h1 : (Int32.ofNat L - 6).toInt = (L : Int) - 6 := by
    have := pk_sub_toInt (a := L) (b := 6) (by omega) (by decide)
    exact this
  have h2 : (nI i).toInt = (i : Int) := nI_toInt (by omega)
  have h3 : ¬ (Int32.ofNat L - 6).toInt < (nI i).toInt := fun z => h (Int32.lt_iff_toInt_lt.mpr z)
  rw [h1, h2] at h3
  omega
