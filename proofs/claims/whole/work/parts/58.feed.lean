/-! feed -/
def bq (x sh : Int32) : Int32 := (iu x sh) &&& 255
def cz (v : Int32) : Nat := if v = 0 then 0 else 1
def apS (S : SS) (v : Int32) : SS := if v = 0 then S else pj (pa S 2 (gi S 1 1) v) 1 1 (gi S 1 1 + 1)
def apT (T : SS) (v : Int32) : SS := if v = 0 then T else pj (pa T 53 (gi T 52 2) v) 52 2 (gi T 52 2 + 1)
def by4 (x : Int32) : List Int32 := [bq x 24, bq x 16, bq x 8, bq x 0]
def cnB (l : List Int32) : Nat := (l.map cz).sum
theorem bq_ex (x sh : Int32) : ∃ j, j < 256 ∧ bq x sh = nI j := pk_andE (iu x sh) 8 (by decide)
theorem sr_bq (x : Int32) : (sr x 24) &&& 255 = bq x 24 ∧ (sr x 16) &&& 255 = bq x 16 ∧ (sr x 8) &&& 255 = bq x 8 ∧ (sr x 0) &&& 255 = bq x 0 := by
  have key : ∀ (s : Int32) (k : Nat), ((s &&& 31).toBitVec.smod 32).toNat = k → ((s.toUInt32 &&& Int32.toUInt32 31).toBitVec % 32).toNat = k → k ≤ 24 → (sr x s) &&& 255 = bq x s := fun s k h1 h2 hk => by
    have e1 := pk_ushr x s k h2
    have e2 := pk_shr x (s &&& 31) k h1
    unfold bq
    rw [pk_and _ 8 (by decide), pk_and _ 8 (by decide)]
    congr 1
    show (x >>> (s &&& 31)).toBitVec.toNat % 2 ^ 8 = (x.toUInt32 >>> (s.toUInt32 &&& Int32.toUInt32 31)).toInt32.toBitVec.toNat % 2 ^ 8
    rw [e1]
    have e3 : (((x >>> (s &&& 31)).toBitVec.toNat : Nat) : Int) % 2 ^ 8 = (x.toInt >>> k) % 2 ^ 8 := by
      rw [← e2]
      show _ = (x >>> (s &&& 31)).toBitVec.toInt % 2 ^ 8
      rw [BitVec.toInt_eq_toNat_cond]
      split
      · rfl
      · omega
    have e4 : (x.toInt >>> k) % 2 ^ 8 = (((x.toBitVec.toNat / 2 ^ k : Nat) : Int)) % 2 ^ 8 := by
      rw [Int.shiftRight_eq_div_pow]
      show (x.toBitVec.toInt / ((2 ^ k : Nat) : Int)) % 2 ^ 8 = _
      rw [BitVec.toInt_eq_toNat_cond]
      split
      · rw [Int.natCast_ediv]
      · have hs : ((2 ^ 32 : Nat) : Int) = ((2 ^ (32 - k) : Nat) : Int) * ((2 ^ k : Nat) : Int) := by
          rw [← Int.natCast_mul, ← Nat.pow_add, Nat.sub_add_cancel (by omega)]
        have hq : ((x.toBitVec.toNat : Int) - ((2 ^ 32 : Nat) : Int)) / ((2 ^ k : Nat) : Int) = (x.toBitVec.toNat : Int) / ((2 ^ k : Nat) : Int) - ((2 ^ (32 - k) : Nat) : Int) := by
          rw [hs, Int.sub_mul_ediv_right _ _ (by have := Nat.two_pow_pos k; omega)]
        rw [hq, Int.natCast_ediv]
        have h8 : ((2 ^ (32 - k) : Nat) : Int) = 2 ^ 8 * ((2 ^ (24 - k) : Nat) : Int) := by
          have : (2 ^ (32 - k) : Nat) = 2 ^ 8 * 2 ^ (24 - k) := by
            rw [← Nat.pow_add]
            congr 1
            omega
          rw [this, Int.natCast_mul]
          rfl
        rw [h8, Int.sub_mul_emod_self_left]
    omega
  exact ⟨key 24 24 (by decide) (by decide) (by omega), key 16 16 (by decide) (by decide) (by omega), key 8 8 (by decide) (by decide) (by omega), key 0 0 (by decide) (by decide) (by omega)⟩
theorem cz_le (v : Int32) : cz v ≤ 1 := by
  unfold cz
  split <;> omega
theorem apS_len {S : SS} {k : Nat} {v : Int32} (h : gi S 1 1 = nI k) : gi (apS S v) 1 1 = nI (k + cz v) := by
  unfold apS cz
  by_cases c : v = 0
  · rw [if_pos c, if_pos c]
    exact h
  · rw [if_neg c, if_neg c, gi_pj, if_pos rfl, if_pos rfl, h, nI_1]
theorem put_s {N n k : Nat} {x sh : Int32} {S : SS} (hs : ¬ sh < 0) (hk : gi S 1 1 = nI k) (hr : k + cz (bq x sh) ≤ 240) : fX9_put_l3 N (n + 1) x sh S = fX9_put_l3 N n x (sh + (-8)) (apS S (bq x sh)) := by
  have h1 : fX9_put_l3 N (n + 1) x sh S = if sh < 0 then some S else lt (bq x sh) fun v2 => if v2 = 0 then (lt (sh + (-8)) fun v4 => fX9_put_l3 N n x v4 S) else (if 240 ≤ (gi S 1 1) then (lt (sh + (-8)) fun v6 => fX9_put_l3 N n x v6 S) else (ck (inb (gi S 1 1) 240) <| lt (pa S 2 (gi S 1 1) v2) fun S8 => lt (pj S8 1 1 ((gi S8 1 1) + 1)) fun S9 => lt (sh + (-8)) fun v10 => fX9_put_l3 N n x v10 S9)) := by
    rw [fX9_put_l3]
    rfl
  rw [h1, if_neg hs, lt_s9]
  unfold apS
  unfold cz at hr
  by_cases c : bq x sh = 0
  · rw [if_pos c, if_pos c, lt_s9]
  · rw [if_neg c] at hr
    rw [if_neg c, if_neg c, hk, if_neg (show ¬ (240 : Int32) ≤ nI k from nI_ge (b := 240) (by omega) (by omega)), ck_in (by omega) (by omega), lt_s9, lt_s9, lt_s9]
    have : gi (pa S 2 (nI k) (bq x sh)) 1 1 = nI k := by
      unfold gi
      rw [row_pa, if_neg (by decide)]
      exact hk
    rw [this]
theorem c_put {N k : Nat} {x : Int32} {S : SS} (hN : 10 ≤ N) (hk : gi S 1 1 = nI k) (hr : k + cnB (by4 x) ≤ 240) : fX9_put N S x = some ((by4 x).foldl apS S) ∧ gi ((by4 x).foldl apS S) 1 1 = nI (k + cnB (by4 x)) := by
  obtain ⟨n, rfl⟩ : ∃ q, N = q + 5 := ⟨N - 5, by omega⟩
  have hr' : k + (cz (bq x 24) + (cz (bq x 16) + (cz (bq x 8) + (cz (bq x 0) + 0)))) ≤ 240 := hr
  have k1 := apS_len (v := bq x 24) hk
  have k2 := apS_len (v := bq x 16) k1
  have k3 := apS_len (v := bq x 8) k2
  have k4 := apS_len (v := bq x 0) k3
  have p1 := put_s (N := n + 5) (n := n + 4) (x := x) (sh := 24) (by decide) hk (by omega)
  have p2 := put_s (N := n + 5) (n := n + 3) (x := x) (sh := 16) (by decide) k1 (by omega)
  have p3 := put_s (N := n + 5) (n := n + 2) (x := x) (sh := 8) (by decide) k2 (by omega)
  have p4 := put_s (N := n + 5) (n := n + 1) (x := x) (sh := 0) (by decide) k3 (by omega)
  constructor
  · unfold fX9_put
    rw [p1, show (24 : Int32) + (-8) = 16 by decide, p2, show (16 : Int32) + (-8) = 8 by decide, p3, show (8 : Int32) + (-8) = 0 by decide, p4, show (0 : Int32) + (-8) = -8 by decide]
    rw [fX9_put_l3, if_pos (by decide)]
    rfl
  · refine k4.trans ?_
    congr 1
    show _ = k + (cz (bq x 24) + (cz (bq x 16) + (cz (bq x 8) + (cz (bq x 0) + 0))))
    omega
theorem cnt_s {N n : Nat} {x sh : Int32} {c : Nat} (hs : ¬ sh < 0) : fX9_bytesIn_l5 N (n + 1) x (nI c) sh = fX9_bytesIn_l5 N n x (nI (c + cz (bq x sh))) (sh + (-8)) := by
  have h1 : fX9_bytesIn_l5 N (n + 1) x (nI c) sh = if sh < 0 then some (nI c) else if bq x sh = 0 then (lt (sh + (-8)) fun v3 => fX9_bytesIn_l5 N n x (nI c) v3) else (lt (nI c + 1) fun v4 => lt (sh + (-8)) fun v5 => fX9_bytesIn_l5 N n x v4 v5) := by
    rw [fX9_bytesIn_l5]
    rfl
  rw [h1, if_neg hs]
  unfold cz
  by_cases q : bq x sh = 0
  · rw [if_pos q, if_pos q, lt_s9]
    rfl
  · rw [if_neg q, if_neg q, lt_s9, lt_s9, nI_1]
theorem c_cnt {N : Nat} (hN : 10 ≤ N) (x : Int32) : fX9_bytesIn N x = some (nI (cnB (by4 x))) := by
  obtain ⟨n, rfl⟩ : ∃ q, N = q + 5 := ⟨N - 5, by omega⟩
  unfold fX9_bytesIn
  have e0 : (0 : Int32) = nI 0 := rfl
  rw [show fX9_bytesIn_l5 (n + 5) (n + 5) x 0 24 = fX9_bytesIn_l5 (n + 5) (n + 5) x (nI 0) 24 from rfl]
  rw [cnt_s (n := n + 4) (by decide), show (24 : Int32) + (-8) = 16 by decide, cnt_s (n := n + 3) (by decide), show (16 : Int32) + (-8) = 8 by decide, cnt_s (n := n + 2) (by decide), show (8 : Int32) + (-8) = 0 by decide, cnt_s (n := n + 1) (by decide), show (0 : Int32) + (-8) = -8 by decide]
  rw [fX9_bytesIn_l5, if_pos (by decide)]
  congr 2
  show _ = (cz (bq x 24) + (cz (bq x 16) + (cz (bq x 8) + (cz (bq x 0) + 0))))
  omega
def by20 (a b c d e : Int32) : List Int32 := by4 a ++ (by4 b ++ (by4 c ++ (by4 d ++ by4 e)))
theorem byte_at {N : Nat} {a b c d e : Int32} : ∀ i, i < 20 → fX12_byteOf N a b c d e (nI i) = some ((by20 a b c d e).getD i 0) := by
  intro i hi
  unfold fX12_byteOf fX12_byteOf_j45
  have sa := sr_bq a
  have sb := sr_bq b
  have sc := sr_bq c
  have sd := sr_bq d
  have se := sr_bq e
  have k0 : (24 : Int32) - 8 * 0 = 24 := by decide
  have k1 : (24 : Int32) - 8 * 1 = 16 := by decide
  have k2 : (24 : Int32) - 8 * 2 = 8 := by decide
  have k3 : (24 : Int32) - 8 * 3 = 0 := by decide
  rcases (by omega : i = 0 ∨ i = 1 ∨ i = 2 ∨ i = 3 ∨ i = 4 ∨ i = 5 ∨ i = 6 ∨ i = 7 ∨ i = 8 ∨ i = 9 ∨ i = 10 ∨ i = 11 ∨ i = 12 ∨ i = 13 ∨ i = 14 ∨ i = 15 ∨ i = 16 ∨ i = 17 ∨ i = 18 ∨ i = 19) with rfl | rfl | rfl | rfl | rfl | rfl | rfl | rfl | rfl | rfl | rfl | rfl | rfl | rfl | rfl | rfl | rfl | rfl | rfl | rfl
  · rw [if_neg (by decide), show ir (nI 0) 4 = 0 by decide, k0, sa.1]
    rfl
  · rw [if_neg (by decide), show ir (nI 1) 4 = 1 by decide, k1, sa.2.1]
    rfl
  · rw [if_neg (by decide), show ir (nI 2) 4 = 2 by decide, k2, sa.2.2.1]
    rfl
  · rw [if_neg (by decide), show ir (nI 3) 4 = 3 by decide, k3, sa.2.2.2]
    rfl
  · rw [if_pos (by decide), if_neg (by decide), show ir (nI 4) 4 = 0 by decide, k0, sb.1]
    rfl
  · rw [if_pos (by decide), if_neg (by decide), show ir (nI 5) 4 = 1 by decide, k1, sb.2.1]
    rfl
  · rw [if_pos (by decide), if_neg (by decide), show ir (nI 6) 4 = 2 by decide, k2, sb.2.2.1]
    rfl
  · rw [if_pos (by decide), if_neg (by decide), show ir (nI 7) 4 = 3 by decide, k3, sb.2.2.2]
    rfl
  · rw [if_pos (by decide), if_pos (by decide), if_neg (by decide), show ir (nI 8) 4 = 0 by decide, k0, sc.1]
    rfl
  · rw [if_pos (by decide), if_pos (by decide), if_neg (by decide), show ir (nI 9) 4 = 1 by decide, k1, sc.2.1]
    rfl
  · rw [if_pos (by decide), if_pos (by decide), if_neg (by decide), show ir (nI 10) 4 = 2 by decide, k2, sc.2.2.1]
    rfl
  · rw [if_pos (by decide), if_pos (by decide), if_neg (by decide), show ir (nI 11) 4 = 3 by decide, k3, sc.2.2.2]
    rfl
  · rw [if_pos (by decide), if_pos (by decide), if_pos (by decide), if_neg (by decide), show ir (nI 12) 4 = 0 by decide, k0, sd.1]
    rfl
  · rw [if_pos (by decide), if_pos (by decide), if_pos (by decide), if_neg (by decide), show ir (nI 13) 4 = 1 by decide, k1, sd.2.1]
    rfl
  · rw [if_pos (by decide), if_pos (by decide), if_pos (by decide), if_neg (by decide), show ir (nI 14) 4 = 2 by decide, k2, sd.2.2.1]
    rfl
  · rw [if_pos (by decide), if_pos (by decide), if_pos (by decide), if_neg (by decide), show ir (nI 15) 4 = 3 by decide, k3, sd.2.2.2]
    rfl
  · rw [if_pos (by decide), if_pos (by decide), if_pos (by decide), if_pos (by decide), show ir (nI 16) 4 = 0 by decide, k0, se.1]
    rfl
  · rw [if_pos (by decide), if_pos (by decide), if_pos (by decide), if_pos (by decide), show ir (nI 17) 4 = 1 by decide, k1, se.2.1]
    rfl
  · rw [if_pos (by decide), if_pos (by decide), if_pos (by decide), if_pos (by decide), show ir (nI 18) 4 = 2 by decide, k2, se.2.2.1]
    rfl
  · rw [if_pos (by decide), if_pos (by decide), if_pos (by decide), if_pos (by decide), show ir (nI 19) 4 = 3 by decide, k3, se.2.2.2]
    rfl
theorem by20_len (a b c d e : Int32) : (by20 a b c d e).length = 20 := rfl
theorem dropc (l : List Int32) {i : Nat} (h : i < l.length) : l.drop i = l.getD i 0 :: l.drop (i + 1) := by
  rw [List.drop_eq_getElem_cons h]
  congr 1
  simp [List.getD, h]
theorem cnt_l {N : Nat} {a b c d e : Int32} {T : SS} : ∀ (j i n v : Nat), i + j = 20 → j < n → fX12_feed_l6 N n a b c d e (nI v) (nI i) T = if ((gi T 52 2) + nI (v + cnB ((by20 a b c d e).drop i))) ≤ 240 then fX12_feed_l62 N N a b c d e 0 T else some (T, (-1)) := by
  intro j
  induction j with
  | zero =>
    intro i n v hi hn
    obtain ⟨n, rfl⟩ : ∃ q, n = q + 1 := ⟨n - 1, by omega⟩
    have : i = 20 := by omega
    subst this
    unfold fX12_feed_l6
    rw [if_pos (by decide)]
    rfl
  | succ j ih =>
    intro i n v hi hn
    obtain ⟨n, rfl⟩ : ∃ q, n = q + 1 := ⟨n - 1, by omega⟩
    unfold fX12_feed_l6
    rw [if_neg (show ¬ (20 : Int32) ≤ nI i from nI_ge (b := 20) (by omega) (by omega)), bd_s (byte_at i (by omega)), dropc _ (by rw [by20_len]; omega)]
    have e9 : cnB ((by20 a b c d e).getD i 0 :: (by20 a b c d e).drop (i + 1)) = cz ((by20 a b c d e).getD i 0) + cnB ((by20 a b c d e).drop (i + 1)) := rfl
    rw [e9]
    unfold cz
    by_cases q : (by20 a b c d e).getD i 0 = 0
    · rw [if_pos q, if_pos q, lt_s9, lt_s9, nI_1, show nI v + 0 = nI v from nI_add v 0, ih (i + 1) n v (by omega) (by omega), Nat.zero_add]
    · rw [if_neg q, if_neg q, lt_s9, lt_s9, nI_1, nI_1, ih (i + 1) n (v + 1) (by omega) (by omega), Nat.add_assoc]
theorem apT_len {T : SS} {k : Nat} {v : Int32} (h : gi T 52 2 = nI k) : gi (apT T v) 52 2 = nI (k + cz v) := by
  unfold apT cz
  by_cases c : v = 0
  · rw [if_pos c, if_pos c]
    exact h
  · rw [if_neg c, if_neg c, gi_pj, if_pos rfl, if_pos rfl, h, nI_1]
theorem putT_l {N : Nat} {a b c d e : Int32} : ∀ (j i n k : Nat) (T : SS), gi T 52 2 = nI k → k + cnB ((by20 a b c d e).drop i) ≤ 240 → i + j = 20 → j < n → fX12_feed_l62 N n a b c d e (nI i) T = some (((by20 a b c d e).drop i).foldl apT T, nI (k + cnB ((by20 a b c d e).drop i))) := by
  intro j
  induction j with
  | zero =>
    intro i n k T hk _ hi hn
    obtain ⟨n, rfl⟩ : ∃ q, n = q + 1 := ⟨n - 1, by omega⟩
    have : i = 20 := by omega
    subst this
    unfold fX12_feed_l62
    rw [if_pos (by decide), hk]
    rfl
  | succ j ih =>
    intro i n k T hk hr hi hn
    obtain ⟨n, rfl⟩ : ∃ q, n = q + 1 := ⟨n - 1, by omega⟩
    have ed := dropc (by20 a b c d e) (i := i) (by rw [by20_len]; omega)
    have e9 : cnB ((by20 a b c d e).drop i) = cz ((by20 a b c d e).getD i 0) + cnB ((by20 a b c d e).drop (i + 1)) := by
      rw [ed]
      rfl
    have ef : ((by20 a b c d e).drop i).foldl apT T = ((by20 a b c d e).drop (i + 1)).foldl apT (apT T ((by20 a b c d e).getD i 0)) := by
      rw [ed]
      rfl
    rw [e9] at hr
    unfold fX12_feed_l62
    rw [if_neg (show ¬ (20 : Int32) ≤ nI i from nI_ge (b := 20) (by omega) (by omega)), bd_s (byte_at i (by omega)), e9, ef, ← Nat.add_assoc]
    have hl := apT_len (v := (by20 a b c d e).getD i 0) hk
    rw [← ih (i + 1) n (k + cz ((by20 a b c d e).getD i 0)) (apT T ((by20 a b c d e).getD i 0)) hl (by omega) (by omega) (by omega)]
    unfold apT
    unfold cz at hr
    by_cases q : (by20 a b c d e).getD i 0 = 0
    · rw [if_pos q, if_pos q, lt_s9, nI_1]
    · rw [if_neg q] at hr
      rw [if_neg q, if_neg q, hk, ck_in (by omega) (by omega), lt_s9, lt_s9, lt_s9, nI_1]
      have : gi (pa T 53 (nI k) ((by20 a b c d e).getD i 0)) 52 2 = nI k := by
        unfold gi
        rw [row_pa, if_neg (by decide)]
        exact hk
      rw [this]
/-- what a TAPE is in both, and what stays -/
def rTN (n : Nat) (S T : SS) : Prop := n ≤ 240 ∧ gi S 1 1 = nI n ∧ gi T 52 2 = nI n ∧ ∀ j, j < n → S.1 2 j = T.1 53 j ∧ ∃ v, 0 < v ∧ v < 256 ∧ S.1 2 j = nI v
theorem ap_rel {n : Nat} {S T : SS} {v : Int32} (h : rTN n S T) (hv : ∃ j, j < 256 ∧ v = nI j) (hr : n + cz v ≤ 240) : rTN (n + cz v) (apS S v) (apT T v) := by
  refine ⟨hr, apS_len h.2.1, apT_len h.2.2.1, ?_⟩
  unfold cz at hr ⊢
  unfold apS apT
  by_cases c : v = 0
  · rw [if_pos c, if_pos c, if_pos c]
    exact h.2.2.2
  · rw [if_neg c] at hr
    rw [if_neg c, if_neg c, if_neg c, h.2.1, h.2.2.1]
    intro j hj
    rw [row_pj, if_neg (by decide), row_pj, if_neg (by decide), row_pa, if_pos rfl, row_pa, if_pos rfl, nI_clamp (by omega)]
    by_cases e : j = n
    · subst e
      rw [pk_us, pk_us]
      obtain ⟨w, w1, w2⟩ := hv
      refine ⟨rfl, w, ?_, w1, w2⟩
      rcases Nat.eq_zero_or_pos w with rfl | hp
      · exact absurd w2 c
      · exact hp
    · rw [pk_un e, pk_un e]
      exact h.2.2.2 j (by omega)
theorem aps_rel : ∀ (l : List Int32) (n : Nat) (S T : SS), rTN n S T → (∀ v, v ∈ l → ∃ j, j < 256 ∧ v = nI j) → n + cnB l ≤ 240 → rTN (n + cnB l) (l.foldl apS S) (l.foldl apT T)
  | [], _, _, _, h, _, _ => h
  | v :: l, n, S, T, h, hv, hr => by
    have e : cnB (v :: l) = cz v + cnB l := rfl
    rw [e] at hr ⊢
    rw [← Nat.add_assoc]
    exact aps_rel l _ _ _ (ap_rel h (hv v (List.mem_cons_self ..)) (by omega)) (fun x hx => hv x (List.mem_cons_of_mem _ hx)) (by omega)
theorem apS_sm {P : Nat → Nat → Prop} (hP : ∀ k j, P k j → k ≠ 2 ∧ ¬ (k = 1 ∧ j = 1)) : ∀ (l : List Int32) (S : SS), Sm P S (l.foldl apS S) ∧ (l.foldl apS S).2 = S.2
  | [], S => ⟨Sm.rf, rfl⟩
  | v :: l, S => by
    have h1 : Sm P S (apS S v) ∧ (apS S v).2 = S.2 := by
      unfold apS
      by_cases c : v = 0
      · rw [if_pos c]
        exact ⟨Sm.rf, rfl⟩
      · rw [if_neg c]
        exact ⟨(sm_pa (fun j q => (hP 2 j q).1 rfl)).tr (sm_pj (fun q => (hP 1 1 q).2 ⟨rfl, rfl⟩)), rfl⟩
    have h2 := apS_sm hP l (apS S v)
    exact ⟨h1.1.tr h2.1, h2.2.trans h1.2⟩
theorem apT_sm {P : Nat → Nat → Prop} (hP : ∀ k j, P k j → k ≠ 53 ∧ ¬ (k = 52 ∧ j = 2)) : ∀ (l : List Int32) (T : SS), Sm P T (l.foldl apT T)
  | [], T => Sm.rf
  | v :: l, T => by
    have h1 : Sm P T (apT T v) := by
      unfold apT
      by_cases c : v = 0
      · rw [if_pos c]
        exact Sm.rf
      · rw [if_neg c]
        exact (sm_pa (fun j q => (hP 53 j q).1 rfl)).tr (sm_pj (fun q => (hP 52 2 q).2 ⟨rfl, rfl⟩))
    exact h1.tr (apT_sm hP l (apT T v))
theorem s_feed {N : Nat} (hN : 10000 ≤ N) {S T : SS} (h : Rel N S T) (a b c d e : Int32) : ∃ (r : Int32) (S' T' : SS), (fX11_feed N S a b c d e = some (S', r)) ∧ (fX12_feed N T a b c d e = some (T', r)) ∧ Rel N S' T' := by
  obtain ⟨E, ⟨n, h1, h2, h3, h4⟩, hm, hl, ha, hi, hs, hz⟩ := id h
  have hc := cnt_l (N := N) (a := a) (b := b) (c := c) (d := d) (e := e) (T := T) 20 0 N 0 (by omega) (by omega)
  have hc' : fX12_feed_l6 N N a b c d e 0 0 T = _ := hc
  have eL : cnB (by20 a b c d e) = cnB (by4 a) + cnB (by4 b) + cnB (by4 c) + cnB (by4 d) + cnB (by4 e) := by
    have ap : ∀ x y : List Int32, cnB (x ++ y) = cnB x + cnB y := fun x y => by
      unfold cnB
      rw [List.map_append, List.sum_append]
    unfold by20
    rw [ap, ap, ap, ap]
    omega
  have c4 : ∀ x, cnB (by4 x) ≤ 4 := fun x => by
    have q1 := cz_le (bq x 24)
    have q2 := cz_le (bq x 16)
    have q3 := cz_le (bq x 8)
    have q4 := cz_le (bq x 0)
    show cz (bq x 24) + (cz (bq x 16) + (cz (bq x 8) + (cz (bq x 0) + 0))) ≤ 4
    omega
  have ca := c4 a
  have cb := c4 b
  have cc := c4 c
  have cd := c4 d
  have ce := c4 e
  unfold fX11_feed fX12_feed
  rw [hc', h3, List.drop_zero, Nat.zero_add, bd_s (c_cnt (by omega) a), bd_s (c_cnt (by omega) b), bd_s (c_cnt (by omega) c), bd_s (c_cnt (by omega) d), bd_s (c_cnt (by omega) e), lt_s9, nI_add, nI_add, nI_add, nI_add, ← eL, h2, nI_add]
  by_cases hq : n + cnB (by20 a b c d e) ≤ 240
  · rw [if_pos (show nI (n + cnB (by20 a b c d e)) ≤ 240 from nI_le (b := 240) hq (by omega)), if_pos (show nI (n + cnB (by20 a b c d e)) ≤ 240 from nI_le (b := 240) hq (by omega))]
    obtain ⟨pa1, pa2⟩ := c_put (N := N) (x := a) (by omega) h2 (by omega)
    obtain ⟨pb1, pb2⟩ := c_put (N := N) (x := b) (by omega) pa2 (by omega)
    obtain ⟨pc1, pc2⟩ := c_put (N := N) (x := c) (by omega) pb2 (by omega)
    obtain ⟨pd1, pd2⟩ := c_put (N := N) (x := d) (by omega) pc2 (by omega)
    obtain ⟨pe1, pe2⟩ := c_put (N := N) (x := e) (by omega) pd2 (by omega)
    have hp := putT_l (N := N) (a := a) (b := b) (c := c) (d := d) (e := e) 20 0 N n T h3 (by rw [List.drop_zero]; exact hq) (by omega) (by omega)
    rw [List.drop_zero] at hp
    have hp' : fX12_feed_l62 N N a b c d e 0 T = _ := hp
    have ef : (by4 e).foldl apS ((by4 d).foldl apS ((by4 c).foldl apS ((by4 b).foldl apS ((by4 a).foldl apS S)))) = (by20 a b c d e).foldl apS S := by
      unfold by20
      rw [List.foldl_append, List.foldl_append, List.foldl_append, List.foldl_append]
    have pe3 := pe2.trans (congrArg nI (show n + cnB (by4 a) + cnB (by4 b) + cnB (by4 c) + cnB (by4 d) + cnB (by4 e) = n + cnB (by20 a b c d e) by omega))
    rw [bd_s pa1, bd_s pb1, bd_s pc1, bd_s pd1, bd_s pe1, hp', pe3, ef]
    have hb : ∀ v, v ∈ by20 a b c d e → ∃ j, j < 256 ∧ v = nI j := fun v hv => by
      have h4' : ∀ x, v ∈ by4 x → ∃ j, j < 256 ∧ v = nI j := fun x hx => by
        unfold by4 at hx
        simp only [List.mem_cons, List.not_mem_nil, or_false] at hx
        rcases hx with rfl | rfl | rfl | rfl <;> exact bq_ex _ _
      unfold by20 at hv
      simp only [List.mem_append] at hv
      rcases hv with q | q | q | q | q <;> exact h4' _ q
    have hT := aps_rel (by20 a b c d e) n S T ⟨h1, h2, h3, h4⟩ hb hq
    refine ⟨nI (n + cnB (by20 a b c d e)), _, _, rfl, rfl, E, ⟨_, hT.1, hT.2.1, hT.2.2.1, hT.2.2.2⟩, rMill_c (apS_sm ?_ _ _).1 (apT_sm ?_ _ _) hm, rLaw_c (apS_sm ?_ _ _).1 (by rw [(apS_sm (P := fun _ _ => False) (fun _ _ q => q.elim) _ _).2]) (apT_sm ?_ _ _) hl, rAct_c (apS_sm ?_ _ _).1 (apT_sm ?_ _ _) ha, rImg_c (apS_sm ?_ _ _).1 (apT_sm ?_ _ _) hi, rSeen_c (apS_sm ?_ _ _).1 (apT_sm ?_ _ _) hs, rMisc_c (apS_sm ?_ _ _).1 (apT_sm ?_ _ _) hz⟩
    · intro k j p
      unfold millC at p
      omega
    · intro k j p
      unfold millM at p
      omega
    · intro k j p
      unfold lawC at p
      omega
    · intro k j p
      unfold lawM at p
      omega
    · intro k j p
      unfold actC at p
      omega
    · intro k j p
      unfold actM at p
      omega
    · intro k j p
      unfold imgC at p
      omega
    · intro k j p
      unfold imgM at p
      omega
    · intro k j p
      unfold seenC at p
      omega
    · intro k j p
      unfold seenM at p
      omega
    · intro k j p
      unfold miscC at p
      omega
    · intro k j p
      unfold miscM at p
      omega
  · rw [if_neg (show ¬ nI (n + cnB (by20 a b c d e)) ≤ 240 from nI_ge (a := 240) (by omega) (by omega)), if_neg (show ¬ nI (n + cnB (by20 a b c d e)) ≤ 240 from nI_ge (a := 240) (by omega) (by omega))]
    exact ⟨-1, S, T, rfl, rfl, h⟩
