/-! the memory's own laws -/
theorem gi_pr {S : SS} {k k' j : Nat} {f : Nat → Int32} : gi (pr S k f) k' j = if k' = k then f j else gi S k' j := by
  unfold gi pr
  dsimp only
  split <;> rfl
theorem row_pr {S : SS} {k k' : Nat} {f : Nat → Int32} : (pr S k f).1 k' = if k' = k then f else S.1 k' := rfl
theorem row_pj {S : SS} {k k' j : Nat} {v : Int32} : (pj S k j v).1 k' = if k' = k then upd (S.1 k) j v else S.1 k' := rfl
theorem row_pa {S : SS} {k k' : Nat} {i v : Int32} : (pa S k i v).1 k' = if k' = k then upd (S.1 k) i.toNatClampNeg v else S.1 k' := rfl
theorem gi_pj {S : SS} {k k' j j' : Nat} {v : Int32} : gi (pj S k j v) k' j' = if k' = k then (if j' = j then v else gi S k' j') else gi S k' j' := by
  unfold gi
  rw [row_pj]
  by_cases h : k' = k
  · subst h
    simp only [if_true]
    rfl
  · simp only [h, if_false]
theorem gi_pa {S : SS} {k k' j' : Nat} {i v : Int32} : gi (pa S k i v) k' j' = if k' = k then (if j' = i.toNatClampNeg then v else gi S k' j') else gi S k' j' := gi_pj
theorem ga_pj {S : SS} {k k' j : Nat} {i v : Int32} : ga (pj S k j v) k' i = if k' = k then (if i.toNatClampNeg = j then v else ga S k' i) else ga S k' i := gi_pj
theorem ga_pa {S : SS} {k k' : Nat} {i i' v : Int32} : ga (pa S k i v) k' i' = if k' = k then (if i'.toNatClampNeg = i.toNatClampNeg then v else ga S k' i') else ga S k' i' := gi_pj
theorem gi_pl {S : SS} {k j : Nat} {v : Int64} : gi (pl S v) k j = gi S k j := rfl
theorem ga_pl {S : SS} {k : Nat} {i : Int32} {v : Int64} : ga (pl S v) k i = ga S k i := rfl
theorem snd_pj {S : SS} {k j : Nat} {v : Int32} : (pj S k j v).2 = S.2 := rfl
theorem snd_pa {S : SS} {k : Nat} {i v : Int32} : (pa S k i v).2 = S.2 := rfl
theorem snd_pr {S : SS} {k : Nat} {f : Nat → Int32} : (pr S k f).2 = S.2 := rfl
theorem ga_nI {S : SS} {k d : Nat} (h : d < 2 ^ 31) : ga S k (nI d) = S.1 k d := by
  unfold ga
  rw [nI_clamp h]
theorem inb_nI {d n : Nat} (h : d < n) (hn : n < 2 ^ 31) : inb (nI d) n = true := by
  have hd : d < 2 ^ 31 := Nat.lt_trans h hn
  unfold inb
  rw [nI_clamp hd]
  simp [h, nI_pos hd]
theorem ck_t {α : Type} {b : Bool} {x : Option α} (h : b = true) : ck b x = x := by
  subst h
  rfl
theorem bd_s {α β : Type} {a : α} {x : Option α} {f : α → Option β} (h : x = some a) : bd x f = f a := by
  subst h
  rfl
theorem b2_s {α β : Type} {s : SS} {a : α} {x : Option (SS × α)} {f : SS → α → Option β} (h : x = some (s, a)) : b2 x f = f s a := by
  subst h
  rfl
theorem lt_s9 {α β : Type} {e : α} {f : α → Option β} : lt e f = f e := rfl
/-- a number of the script against a row of n: below, above, or a place in it -/
theorem ix3 (x : Int32) {n : Nat} (hn : n < 2 ^ 31) : x < 0 ∨ (¬ x < 0 ∧ nI n ≤ x) ∨ ∃ j : Nat, j < n ∧ x = nI j := by
  rcases pk_ix x hn with h | h | h
  · exact Or.inl h
  · by_cases h0 : x < 0
    · exact Or.inl h0
    · exact Or.inr (Or.inl ⟨h0, h⟩)
  · exact Or.inr (Or.inr h)
theorem nI_lit (n : Nat) : (Int32.ofNat n) = nI n := rfl
/-! what may differ: cells of a list -/
def Fr (X : List Nat) (S S' : SS) : Prop := (∀ k, k ∉ X → S'.1 k = S.1 k) ∧ S'.2 = S.2
theorem Fr.rf {X : List Nat} {S : SS} : Fr X S S := ⟨fun _ _ => rfl, rfl⟩
theorem Fr.tr {X : List Nat} {S S' S'' : SS} (h : Fr X S S') (h' : Fr X S' S'') : Fr X S S'' := ⟨fun k hk => (h'.1 k hk).trans (h.1 k hk), h'.2.trans h.2⟩
theorem Fr.mono {X Y : List Nat} {S S' : SS} (h : Fr X S S') (hs : ∀ k, k ∈ X → k ∈ Y) : Fr Y S S' := ⟨fun k hk => h.1 k (fun q => hk (hs k q)), h.2⟩
theorem Fr.pj {X : List Nat} {S : SS} {k j : Nat} {v : Int32} (hk : k ∈ X) : Fr X S (pj S k j v) := ⟨fun a ha => by
  rw [row_pj, if_neg (fun q => ha (by rw [q]; exact hk))], rfl⟩
theorem Fr.pa {X : List Nat} {S : SS} {k : Nat} {i v : Int32} (hk : k ∈ X) : Fr X S (pa S k i v) := Fr.pj hk
theorem Fr.row {X : List Nat} {S S' : SS} (h : Fr X S S') {k : Nat} (hk : k ∉ X) : S'.1 k = S.1 k := h.1 k hk
theorem Fr.gi {X : List Nat} {S S' : SS} (h : Fr X S S') {k j : Nat} (hk : k ∉ X) : gi S' k j = gi S k j := congrFun (h.1 k hk) j
theorem Fr.ga {X : List Nat} {S S' : SS} (h : Fr X S S') {k : Nat} {i : Int32} (hk : k ∉ X) : ga S' k i = ga S k i := congrFun (h.1 k hk) _
