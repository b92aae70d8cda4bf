/-! what is told of a mill: items -/
def clI (kd : Bool) : Int32 := if kd then 115 else 116
def cn (kd : Bool) : Nat := if kd then 4 else 3
def bs (kd : Bool) : Nat := if kd then 0 else 4
def hdd (kd : Bool) (g : Nat) : Nat := if kd then g else 16 * g
def loK (kd : Bool) (k : Nat) : Nat := if kd then (if k = 2 then 1 else 0) else (if k = 0 then 0 else 1)
def hiK (kd : Bool) (k : Nat) : Nat := if kd then (if k = 3 then 99 else 9) else (if k = 1 then 6 else 20)
def usK (kd : Bool) (k : Nat) : Nat := if kd then (if k = 0 then 2 else if k = 1 then 1 else if k = 2 then 4 else 20) else (if k = 0 then 10 else if k = 1 then 2 else 5)
def slC (kd : Bool) (d k : Nat) : Nat × Nat := if kd then (8, k + 1) else (9 + k, d)
def qR (kd : Bool) : Nat := if kd then 63 else 64
def xR (kd : Bool) (d : Nat) : Nat := if kd then 0 else 3 * d
def dD (kd : Bool) (d : Nat) (S T : SS) : Prop := ∀ k, k < cn kd → ∃ v, loK kd k ≤ v ∧ v ≤ hiK kd k ∧ S.1 (slC kd d k).1 (slC kd d k).2 = nI v ∧ T.1 (qR kd) (xR kd d + k) = nI v
theorem k_it (kd : Bool) : ∀ g, g < 2 ^ cn kd → ∀ k, k < cn kd → hdd kd g < 128 ∧ k + bs kd < 7 ∧ (hdd kd g).testBit (k + bs kd) = g.testBit k ∧ hdd kd g ||| 2 ^ (k + bs kd) = hdd kd (g ||| 2 ^ k) ∧ g ||| 2 ^ k < 2 ^ cn kd ∧ g < 128 ∧ k < 7 ∧ pc g ≤ cn kd ∧ (g.testBit k = false → pc (g ||| 2 ^ k) = pc g + 1 ∧ pc g < cn kd) := by
  cases kd <;> decide +kernel
theorem k_pcn (kd : Bool) : ∀ g, g < 2 ^ cn kd → pc g ≤ 4 := by
  cases kd <;> decide +kernel
theorem k_bnd (kd : Bool) : ∀ k, k < cn kd → vLs (k + bs kd) = nI (loK kd k) ∧ vMs (k + bs kd) = nI (hiK kd k) ∧ loK kd k ≤ 9 ∧ hiK kd k ≤ 99 ∧ loK kd k ≤ usK kd k ∧ usK kd k ≤ hiK kd k ∧ fX12_lowest 0 (clI kd) (nI k) = some (nI (loK kd k)) ∧ fX12_highest 0 (clI kd) (nI k) = some (nI (hiK kd k)) ∧ fX12_usual 0 (clI kd) (nI k) = some (nI (usK kd k)) := by
  cases kd <;> decide +kernel
theorem itm {N : Nat} (kd : Bool) (x : Int32) : (fX6_itemOf N (clI kd) x = some (-1) ∧ fX12_itemOf N (clI kd) x = some (-1)) ∨ ∃ k v, k < cn kd ∧ v < 256 ∧ 60 < v ∧ x = nI v ∧ fX6_itemOf N (clI kd) x = some (nI (k + bs kd)) ∧ fX12_itemOf N (clI kd) x = some (nI k) := by
  unfold fX6_itemOf fX12_itemOf
  cases kd
  · rw [if_neg (show ¬ clI false = 115 by decide), if_neg (show ¬ clI false = 115 by decide)]
    by_cases h1 : x = 99
    · exact Or.inr ⟨0, 99, by decide, by decide, by decide, h1, by rw [if_pos h1]; rfl, by rw [if_pos h1]; rfl⟩
    by_cases h2 : x = 108
    · exact Or.inr ⟨2, 108, by decide, by decide, by decide, h2, by rw [if_neg h1, if_pos h2]; rfl, by rw [if_neg h1, if_neg (by rw [h2]; decide), if_pos h2]; rfl⟩
    by_cases h3 : x = 112
    · exact Or.inr ⟨1, 112, by decide, by decide, by decide, h3, by rw [if_neg h1, if_neg h2, if_pos h3]; rfl, by rw [if_neg h1, if_pos h3]; rfl⟩
    rw [if_neg h1, if_neg h2, if_neg h3, if_neg h1, if_neg h3, if_neg h2]
    exact Or.inl ⟨rfl, rfl⟩
  · rw [if_pos (show clI true = 115 by decide), if_pos (show clI true = 115 by decide)]
    by_cases h1 : x = 101
    · exact Or.inr ⟨0, 101, by decide, by decide, by decide, h1, by rw [if_pos h1]; rfl, by rw [if_pos h1]; rfl⟩
    by_cases h2 : x = 102
    · exact Or.inr ⟨1, 102, by decide, by decide, by decide, h2, by rw [if_neg h1, if_pos h2]; rfl, by rw [if_neg h1, if_pos h2]; rfl⟩
    by_cases h3 : x = 103
    · exact Or.inr ⟨2, 103, by decide, by decide, by decide, h3, by rw [if_neg h1, if_neg h2, if_pos h3]; rfl, by rw [if_neg h1, if_neg h2, if_pos h3]; rfl⟩
    by_cases h4 : x = 107
    · exact Or.inr ⟨3, 107, by decide, by decide, by decide, h4, by rw [if_neg h1, if_neg h2, if_neg h3, if_pos h4]; rfl, by rw [if_neg h1, if_neg h2, if_neg h3, if_pos h4]; rfl⟩
    rw [if_neg h1, if_neg h2, if_neg h3, if_neg h4]
    exact Or.inl ⟨rfl, rfl⟩
theorem c_wr {N d k v : Nat} {S : SS} (kd : Bool) (hk : k < cn kd) (hd : d < 7) (he : kd = false → gi S 8 0 = nI (d + 1)) : fX6_write N S (nI (k + bs kd)) (nI v) = some (pj S (slC kd d k).1 (slC kd d k).2 (nI v)) := by
  unfold fX6_write fX6_writeOfEnd
  cases kd
  · rw [he rfl, nI_pred]
    have hk3 : k < 3 := hk
    have e : nI d < 0 ↔ False := ⟨fun z => nI_pos (by omega) z, fun z => z.elim⟩
    rcases (by omega : k = 0 ∨ k = 1 ∨ k = 2) with rfl | rfl | rfl
    · simp only [lt_s9]
      rw [if_neg (by decide), if_neg (by decide), if_neg (by decide), if_neg (by decide), if_neg (nI_pos (by omega)), if_pos (by decide), ck_in hd (by omega)]
      show some (pj S 9 (nI d).toNatClampNeg (nI v)) = _
      rw [nI_clamp (by omega)]
      rfl
    · simp only [lt_s9]
      rw [if_neg (by decide), if_neg (by decide), if_neg (by decide), if_neg (by decide), if_neg (nI_pos (by omega)), if_neg (by decide), if_pos (by decide), ck_in hd (by omega)]
      show some (pj S 10 (nI d).toNatClampNeg (nI v)) = _
      rw [nI_clamp (by omega)]
      rfl
    · simp only [lt_s9]
      rw [if_neg (by decide), if_neg (by decide), if_neg (by decide), if_neg (by decide), if_neg (nI_pos (by omega)), if_neg (by decide), if_neg (by decide), ck_in hd (by omega)]
      show some (pj S 11 (nI d).toNatClampNeg (nI v)) = _
      rw [nI_clamp (by omega)]
      rfl
  · have hk4 : k < 4 := hk
    simp only [lt_s9]
    rcases (by omega : k = 0 ∨ k = 1 ∨ k = 2 ∨ k = 3) with rfl | rfl | rfl | rfl
    · rw [if_pos (by decide)]
      rfl
    · rw [if_neg (by decide), if_pos (by decide)]
      rfl
    · rw [if_neg (by decide), if_neg (by decide), if_pos (by decide)]
      rfl
    · rw [if_neg (by decide), if_neg (by decide), if_neg (by decide), if_pos (by decide)]
      rfl
/-- what reading items touches -/
def itC (kd : Bool) (d : Nat) (k j : Nat) : Prop := (k = 1 ∧ j = 2) ∨ ∃ i, i < cn kd ∧ k = (slC kd d i).1 ∧ j = (slC kd d i).2
def itM (kd : Bool) (d : Nat) (k j : Nat) : Prop := (k = 52 ∧ (j = 3 ∨ j = 4)) ∨ (k = qR kd ∧ ∃ i, i < cn kd ∧ j = xR kd d + i)
theorem itC_8 {kd : Bool} {d k j : Nat} (h : itC kd d k j) : (k = 1 ∧ j = 2) ∨ (kd = true ∧ k = 8 ∧ 1 ≤ j ∧ j ≤ 4) ∨ (kd = false ∧ 9 ≤ k ∧ k ≤ 11 ∧ j = d) := by
  rcases h with h | ⟨i, h1, h2, h3⟩
  · exact Or.inl h
  · cases kd
    · have h1' : i < 3 := h1
      have h2' : k = 9 + i := h2
      have h3' : j = d := h3
      exact Or.inr (Or.inr ⟨rfl, by omega, by omega, h3'⟩)
    · have h1' : i < 4 := h1
      have h2' : k = 8 := h2
      have h3' : j = i + 1 := h3
      exact Or.inr (Or.inl ⟨rfl, h2', by omega, by omega⟩)
theorem itM_8 {kd : Bool} {d k j : Nat} (h : itM kd d k j) : (k = 52 ∧ (j = 3 ∨ j = 4)) ∨ (kd = true ∧ k = 63) ∨ (kd = false ∧ k = 64 ∧ 3 * d ≤ j ∧ j < 3 * d + 3) := by
  rcases h with h | ⟨h1, i, h2, h3⟩
  · exact Or.inl h
  · cases kd
    · have h1' : k = 64 := h1
      have h2' : i < 3 := h2
      have h3' : j = 3 * d + i := h3
      exact Or.inr (Or.inr ⟨rfl, h1', by omega, by omega⟩)
    · exact Or.inr (Or.inl ⟨rfl, h1⟩)
theorem slC_inj {kd : Bool} {d i k : Nat} (h1 : (slC kd d i).1 = (slC kd d k).1) (h2 : (slC kd d i).2 = (slC kd d k).2) : i = k := by
  cases kd
  · have : 9 + i = 9 + k := h1
    omega
  · have : i + 1 = k + 1 := h2
    omega
theorem dD.f {kd : Bool} {d : Nat} {S T S' T' : SS} {P Q : Nat → Nat → Prop} (h : dD kd d S T) (hS : FP P S S') (hT : FP Q T T') (hP : ∀ k, k < cn kd → ¬ P (slC kd d k).1 (slC kd d k).2) (hQ : ∀ k, k < cn kd → ¬ Q (qR kd) (xR kd d + k)) : dD kd d S' T' := fun k hk => by
  obtain ⟨v, v1, v2, v3, v4⟩ := h k hk
  exact ⟨v, v1, v2, (hS.1 _ _ (hP k hk)).trans v3, (hT.1 _ _ (hQ k hk)).trans v4⟩
theorem slC_at {kd : Bool} {d i : Nat} (hi : i < cn kd) : 8 ≤ (slC kd d i).1 ∧ (slC kd d i).1 ≤ 11 ∧ ((slC kd d i).1 = 8 → (slC kd d i).2 ≠ 0) := by
  cases kd
  · have hi' : i < 3 := hi
    show 8 ≤ 9 + i ∧ 9 + i ≤ 11 ∧ (9 + i = 8 → d ≠ 0)
    omega
  · show 8 ≤ 8 ∧ 8 ≤ 11 ∧ (8 = 8 → i + 1 ≠ 0)
    omega
theorem qR_at (kd : Bool) : qR kd = 63 ∨ qR kd = 64 := by cases kd <;> decide
theorem xR_at {kd : Bool} {d i : Nat} (hd : d < 7) (hi : i < cn kd) : xR kd d + i < aln (fun _ => 0) (qR kd) ∧ aln (fun _ => 0) (qR kd) ≤ 21 := by
  cases kd
  · have hi' : i < 3 := hi
    have e : aln (fun _ => 0) (qR false) = 21 := rfl
    have e2 : xR false d = 3 * d := rfl
    rw [e, e2]
    omega
  · have hi' : i < 4 := hi
    have e : aln (fun _ => 0) (qR true) = 4 := rfl
    have e2 : xR true d = 0 := rfl
    rw [e, e2]
    omega
theorem itms {n N d : Nat} {tp : Nat → Nat} (hN : 250 ≤ N) (hb : tpB n tp) (kd : Bool) (hd : d < 7) {S0 T0 : SS} (he : kd = false → gi S0 8 0 = nI (d + 1)) : ∀ (f g a : Nat) (S T : SS) (x6 : Int32), g < 2 ^ cn kd → cn kd - pc g < f → tpC n tp S → gi S 1 2 = nI a → a ≤ n → tpM n tp T → gi T 52 3 = nI (sk n tp a) → gi T 52 4 = -1 → fX12_itemOf N (clI kd) (ch n tp (sk n tp a)) = some x6 → FP (itC kd d) S0 S → FP (itM kd d) T0 T → dD kd d S T →
    ∃ S2 T2 r, fX6_readItems_l4 N f (clI kd) (nI (hdd kd g)) (nI (pc g)) S = some (S2, r) ∧ fX12_items_l41 N (qR kd) f (clI kd) (nI (xR kd d)) (nI g) x6 T = some T2 ∧ FP (itC kd d) S0 S2 ∧ FP (itM kd d) T0 T2 ∧
      ((r = 1 ∧ ∃ a', a ≤ a' ∧ Bt n tp a' S2 T2 ∧ sk n tp a' = a' ∧ dD kd d S2 T2) ∨ (r = 0 ∧ ∃ a' v, Bt n tp a' S2 T2 ∧ sk n tp a' = a' ∧ ch n tp a' = nI v ∧ v < 256 ∧ 60 < v) ∨ (r = 0 ∧ ∃ w, w ≤ n ∧ gi S2 1 2 = nI w ∧ gi T2 52 4 = nI w)) := by
  have hn2 := hb.1
  have cA : ∀ k j, atC k j → itC kd d k j := fun k j h => Or.inl h
  have mA : ∀ k j, atM k j → itM kd d k j := fun k j h => Or.inl ⟨h.1, Or.inl h.2⟩
  have mW : ∀ k j, wrM k j → itM kd d k j := fun k j h => Or.inl h
  have nC : ∀ k, k < cn kd → ¬ atC (slC kd d k).1 (slC kd d k).2 := fun k hk q => by
    have := slC_at (d := d) hk
    have q1 : (slC kd d k).1 = 1 := q.1
    omega
  have nM : ∀ k, k < cn kd → ¬ atM (qR kd) (xR kd d + k) := fun k hk q => by
    have := qR_at kd
    have q1 : qR kd = 52 := q.1
    omega
  intro f
  induction f with
  | zero =>
    intro g a S T x6 hg hf
    omega
  | succ f ih =>
    intro g a S T x6 hg hf hC hS hn hM hT h4 hx fS fT hD
    have hsk := sk_le (tp := tp) hn
    obtain ⟨S4, s1, s2, s3⟩ := c_sgn hN hb hC hS hn
    have b4 : Bt n tp (sk n tp a) S4 T := ⟨hC.f s2 (by simp [atC]) (by simp [atC]), hM, s3, hT, h4, hsk.2⟩
    have hp4 := k_pcn kd g hg
    have d4 : dD kd d S4 T := hD.f s2 (FP.rf (P := atM)) nC nM
    have f4 : FP (itC kd d) S0 S4 := fS.tr (s2.mono cA)
    unfold fX6_readItems_l4 fX12_items_l41
    rw [if_neg (show ¬ 7 < nI (pc g) from nI_nlt (a := 7) (by omega) (by omega)), b2_s s1, if_pos h4]
    rcases itm (N := N) kd (ch n tp (sk n tp a)) with ⟨i1, i2⟩ | ⟨k, v, k1, k2, k3, k4, i1, i2⟩
    · rw [i2] at hx
      cases hx
      rw [bd_s i1, if_pos rfl, if_pos rfl]
      exact ⟨S4, T, 1, rfl, rfl, f4, fT, Or.inl ⟨rfl, sk n tp a, hsk.1, b4, sk_sk hn, d4⟩⟩
    · rw [i2] at hx
      cases hx
      have q := k_it kd g hg k k1
      have kc := (k_sr (hdd kd g) q.1 (k + bs kd) q.2.1).1
      rw [q.2.2.1] at kc
      have km := (k_sr g q.2.2.2.2.2.1 k q.2.2.2.2.2.2.1).1
      unfold fX12_has
      rw [bd_s i1, if_neg (nI_m1 (by omega)), if_neg (nI_m1 (by omega))]
      cases hbit : g.testBit k
      · have hkb := k_bnd kd k k1
        have hlt : sk n tp a < n := (ch_in k2 k4).1
        have hpc := q.2.2.2.2.2.2.2.2 hbit
        rw [if_neg (fun z => by rw [kc.mp z] at hbit; cases hbit), if_neg (fun z => by rw [km.mp z] at hbit; cases hbit), bd_s rfl, if_pos rfl, (k_or (hdd kd g) q.1 (k + bs kd) q.2.1).1, (k_or g q.2.2.2.2.2.1 k q.2.2.2.2.2.2.1).1, q.2.2.2.1]
        simp only [lt_s9]
        have e1 : fX12_lowest N (clI kd) (nI k) = some (nI (loK kd k)) := hkb.2.2.2.2.2.2.1
        have e2 : fX12_highest N (clI kd) (nI k) = some (nI (hiK kd k)) := hkb.2.2.2.2.2.2.2.1
        rw [bd_s e1, bd_s e2, nI_add, nI_1]
        have b10 := b4.step hlt
        have f10 : FP atC S4 (pj S4 1 2 (gi S4 1 2 + 1)) := FP.pj ⟨rfl, rfl⟩
        have g10 : FP atM T (pj T 52 3 (gi T 52 3 + 1)) := FP.pj ⟨rfl, rfl⟩
        have hx1 := xR_at (kd := kd) (d := d) hd k1
        have hq52 := qR_at kd
        have hcl := slC_at (d := d) k1
        rcases num2 hN hb b10 q.2.1 hkb.1 hkb.2.1 hkb.2.2.1 hkb.2.2.2.1 with ⟨v', e, S3, T3, l1, l2, z1, z2, z3, z4, z5, z6⟩ | ⟨w, S3, T3, r, l1, z1, z2, z3, z4, z5, z6⟩
        · have f3 : FP (itC kd d) S0 S3 := f4.tr ((f10.tr z3).mono cA)
          have g3 : FP (itM kd d) T0 T3 := fT.tr ((g10.tr z4).mono mA)
          have h80 : gi S3 8 0 = gi S0 8 0 := f3.gi (fun z => by
            have := itC_8 z
            omega)
          have hwr := c_wr (N := N) (S := S3) (v := v') kd k1 hd (fun z => h80.trans (he z))
          rw [z1] at *
          rw [bd_s hwr, b2_s (rfl : some (pj S3 (slC kd d k).1 (slC kd d k).2 (nI v'), (1 : Int32)) = some (pj S3 (slC kd d k).1 (slC kd d k).2 (nI v'), 1)), if_neg n10, b2_s z2, ck_in hx1.1 (by omega)]
          have fw : FP (itC kd d) S3 (pj S3 (slC kd d k).1 (slC kd d k).2 (nI v')) := FP.pj (Or.inr ⟨k, k1, rfl, rfl⟩)
          have ew : pa T3 (qR kd) (nI (xR kd d + k)) (nI v') = pj T3 (qR kd) (xR kd d + k) (nI v') := by
            show pj T3 (qR kd) (nI (xR kd d + k)).toNatClampNeg (nI v') = _
            rw [nI_clamp (by omega)]
          have gw : FP (itM kd d) T3 (pj T3 (qR kd) (xR kd d + k) (nI v')) := FP.pj (Or.inr ⟨rfl, k, k1, rfl⟩)
          rw [ew]
          obtain ⟨y1, y2, y3, y4, y5, y6⟩ := z5
          have gw1 : FP (fun a b => a = qR kd) T3 (pj T3 (qR kd) (xR kd d + k) (nI v')) := FP.pj rfl
          have fw1 : FP (fun a b => 8 ≤ a) S3 (pj S3 (slC kd d k).1 (slC kd d k).2 (nI v')) := FP.pj hcl.1
          have u5 : gi (pj T3 (qR kd) (xR kd d + k) (nI v')) 52 4 = -1 := (gw1.gi (by omega)).trans y5
          have u4 : gi (pj T3 (qR kd) (xR kd d + k) (nI v')) 52 3 = nI e := (gw1.gi (by omega)).trans y4
          have u2 : tpM n tp (pj T3 (qR kd) (xR kd d + k) (nI v')) := y2.f gw1 (by omega) (by intro j; omega)
          have u1 : tpC n tp (pj S3 (slC kd d k).1 (slC kd d k).2 (nI v')) := y1.f fw1 (by omega) (by intro j; omega)
          have u3 : gi (pj S3 (slC kd d k).1 (slC kd d k).2 (nI v')) 1 2 = nI e := (fw1.gi (by omega)).trans y3
          rw [if_pos u5]
          obtain ⟨T4, t1, t2, t3⟩ := m_look hN hb u2 u4 y6
          rw [b2_s t1]
          have hdn : dD kd d (pj S3 (slC kd d k).1 (slC kd d k).2 (nI v')) (pj T3 (qR kd) (xR kd d + k) (nI v')) := fun i hi => by
            by_cases ei : i = k
            · subst ei
              refine ⟨v', l1, l2, ?_, ?_⟩
              · show gi (pj S3 _ _ (nI v')) _ _ = nI v'
                rw [gi_pj, if_pos rfl, if_pos rfl]
              · show gi (pj T3 _ _ (nI v')) _ _ = nI v'
                rw [gi_pj, if_pos rfl, if_pos rfl]
            · obtain ⟨u, w1, w2, w3, w4⟩ := (d4.f (f10.tr z3) (g10.tr z4) nC nM) i hi
              refine ⟨u, w1, w2, ?_, ?_⟩
              · refine Eq.trans ?_ w3
                show gi (pj S3 _ _ (nI v')) _ _ = gi S3 _ _
                rw [gi_pj]
                by_cases q1 : (slC kd d i).1 = (slC kd d k).1
                · rw [if_pos q1, if_neg (fun q2 => ei (slC_inj q1 q2))]
                · rw [if_neg q1]
              · refine Eq.trans ?_ w4
                show gi (pj T3 _ _ (nI v')) _ _ = gi T3 _ _
                rw [gi_pj, if_pos rfl, if_neg (by omega)]
          have hxx : ∃ x, fX12_itemOf N (clI kd) (ch n tp (sk n tp e)) = some x := by
            rcases itm (N := N) kd (ch n tp (sk n tp e)) with ⟨_, j2⟩ | ⟨_, _, _, _, _, _, _, j2⟩
            · exact ⟨_, j2⟩
            · exact ⟨_, j2⟩
          obtain ⟨x, hx2⟩ := hxx
          rw [bd_s hx2]
          obtain ⟨S5, T5, r5, o1, o2, o3, o4, o5⟩ := ih (g ||| 2 ^ k) e _ T4 x q.2.2.2.2.1 (by omega) u1 u3 y6 (u2.f t2 (by simp [atM]) (by simp [atM])) t3 ((t2.gi (by simp [atM])).trans u5) hx2 (f3.tr fw) ((g3.tr gw).tr (t2.mono mA)) (hdn.f (FP.rf (P := atC)) t2 nC nM)
          rw [hpc.1] at o1
          refine ⟨S5, T5, r5, o1, o2, o3, o4, ?_⟩
          rcases o5 with ⟨w0, a', w1, w2⟩ | w | w
          · exact Or.inl ⟨w0, a', by omega, w2⟩
          · exact Or.inr (Or.inl w)
          · exact Or.inr (Or.inr w)
        · obtain ⟨f, rfl⟩ : ∃ y, f = y + 1 := ⟨f - 1, by omega⟩
          rw [b2_s z1, if_pos rfl, b2_s z2, ck_in hx1.1 (by omega)]
          have gw1 : FP (fun a b => a = qR kd) T3 (pa T3 (qR kd) (nI (xR kd d + k)) r) := FP.pa rfl
          have u5 : gi (pa T3 (qR kd) (nI (xR kd d + k)) r) 52 4 = nI w := (gw1.gi (by omega)).trans z6
          have u6 : ¬ gi (pa T3 (qR kd) (nI (xR kd d + k)) r) 52 4 = -1 := by
            rw [u5]
            exact nI_m1 (by omega)
          rw [if_neg u6]
          unfold fX12_items_l41
          rw [if_neg u6]
          have gw : FP (itM kd d) T3 (pa T3 (qR kd) (nI (xR kd d + k)) r) := FP.pa (Or.inr ⟨rfl, k, k1, nI_clamp (by omega)⟩)
          exact ⟨S3, _, 0, rfl, rfl, f4.tr ((f10.tr z3).mono cA), (fT.tr ((g10.mono mA).tr (z4.mono mW))).tr gw, Or.inr (Or.inr ⟨rfl, w, l1, z5, u5⟩)⟩
      · rw [if_pos (kc.mpr hbit), if_pos (km.mpr hbit), bd_s rfl, if_neg n10]
        exact ⟨S4, T, 0, rfl, rfl, f4, fT, Or.inr (Or.inl ⟨rfl, sk n tp a, v, b4, sk_sk hn, k4, k2, k3⟩)⟩
