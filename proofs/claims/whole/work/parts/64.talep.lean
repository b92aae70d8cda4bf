/-! tale: the pure part -/
def oI : Option Nat → Int32
  | none => -1
  | some r => nI r
def mn2 : Option Nat → Option Nat → Option Nat
  | none, y => y
  | some x, none => some x
  | some x, some y => if y < x then some y else some x
def wmn (f : Nat → Option Nat) : Nat → Option Nat
  | 0 => none
  | L + 1 => mn2 (wmn f L) (f L)
theorem mn2_n (x : Option Nat) : mn2 x none = x := by cases x <;> rfl
theorem wmn_some {f : Nat → Option Nat} : ∀ (L r : Nat), wmn f L = some r → ∃ l, l < L ∧ f l = some r
  | 0, r, h => nomatch h
  | L + 1, r, h => by
    unfold wmn at h
    cases h1 : wmn f L with
    | none =>
      rw [h1] at h
      exact ⟨L, by omega, h⟩
    | some x =>
      rw [h1] at h
      cases h2 : f L with
      | none =>
        rw [h2, mn2_n] at h
        cases h
        obtain ⟨l, q1, q2⟩ := wmn_some L r h1
        exact ⟨l, by omega, q2⟩
      | some y =>
        rw [h2] at h
        simp only [mn2] at h
        split at h
        · cases h
          exact ⟨L, by omega, h2⟩
        · cases h
          obtain ⟨l, q1, q2⟩ := wmn_some L r h1
          exact ⟨l, by omega, q2⟩
theorem wmn_le {f : Nat → Option Nat} : ∀ (L l r : Nat), l < L → f l = some r → ∃ q, wmn f L = some q ∧ q ≤ r
  | 0, l, r, h, _ => absurd h (by omega)
  | L + 1, l, r, h, hf => by
    unfold wmn
    by_cases e : l = L
    · subst e
      rw [hf]
      cases h1 : wmn f l with
      | none => exact ⟨r, rfl, Nat.le_refl _⟩
      | some x =>
        simp only [mn2]
        split
        · exact ⟨r, rfl, Nat.le_refl _⟩
        · exact ⟨x, rfl, by omega⟩
    · obtain ⟨q, q1, q2⟩ := wmn_le L l r (by omega) hf
      rw [q1]
      cases h2 : f L with
      | none => exact ⟨q, rfl, q2⟩
      | some y =>
        simp only [mn2]
        split
        · exact ⟨y, rfl, by omega⟩
        · exact ⟨q, rfl, q2⟩
def stp (fo : Nat → Nat → Bool) (v : Nat → Option Nat) (e l : Nat) : Option Nat := if fo l e then (v l).map (fun r => 10 * r + e) else none
/-- the least row of n + 1 ends that has just those of t, and e for its last -/
def Vn (E : Nat) (lo : Nat → Bool) (fo : Nat → Nat → Nat → Bool) : Nat → Nat → Nat → Option Nat
  | 0, t, e => if t = 2 ^ e ∧ lo e = true then some e else none
  | n + 1, t, e => if t.testBit e = true then wmn (stp (fo (n + 1)) (fun l => Vn E lo fo n (t - 2 ^ e) l) e) E else none
/-- a row of n + 1 ends: which they are, the last of them, the row as a number -/
def pth (E : Nat) (lo : Nat → Bool) (fo : Nat → Nat → Nat → Bool) : Nat → Nat → Nat → Nat → Prop
  | 0, t, e, r => t = 2 ^ e ∧ lo e = true ∧ e < E ∧ r = e
  | n + 1, t, e, r => e < E ∧ ∃ s0 l r0, pth E lo fo n s0 l r0 ∧ fo (n + 1) l e = true ∧ s0.testBit e = false ∧ t = s0 ||| 2 ^ e ∧ r = 10 * r0 + e
theorem k_pow : ∀ e, e < 7 → 2 ^ e < 128 ∧ pc (2 ^ e) = 1 ∧ ∀ x, x < 7 → (2 ^ e).testBit x = decide (x = e) := by decide +kernel
theorem k_ad : ∀ s, s < 128 → ∀ e, e < 7 → s.testBit e = false → (s ||| 2 ^ e) - 2 ^ e = s ∧ pc (s ||| 2 ^ e) = pc s + 1 ∧ (s ||| 2 ^ e).testBit e = true ∧ s ||| 2 ^ e < 128 := by decide +kernel
theorem k_rm : ∀ t, t < 128 → ∀ e, e < 7 → t.testBit e = true → pc (t - 2 ^ e) + 1 = pc t ∧ t - 2 ^ e < t ∧ (t - 2 ^ e) ||| 2 ^ e = t ∧ (t - 2 ^ e).testBit e = false := by decide +kernel
theorem k_pcE : ∀ E, E < 8 → ∀ t, t < 2 ^ E → pc t ≤ E ∧ t < 128 ∧ (pc t = E → ∀ o, o < E → t.testBit o = true) := by decide +kernel
theorem k_rmE : ∀ E, E < 8 → ∀ t, t < 2 ^ E → ∀ e, e < E → (t ||| 2 ^ e) < 2 ^ E ∧ 2 ^ e < 2 ^ E := by decide +kernel
theorem k_pc0 : ∀ t, t < 128 → (pc t = 0 → t = 0) ∧ ∀ e, e < 7 → pc t = 1 → t.testBit e = true → t = 2 ^ e := by decide +kernel
theorem pth_pc {E : Nat} {lo : Nat → Bool} {fo : Nat → Nat → Nat → Bool} (hE : E ≤ 7) : ∀ (n t e r : Nat), pth E lo fo n t e r → t < 2 ^ E ∧ pc t = n + 1 ∧ e < E ∧ r < 10 ^ (n + 1) ∧ t.testBit e = true
  | 0, t, e, r, h => by
    obtain ⟨rfl, h2, h3, rfl⟩ := h
    have q := k_pow r (by omega)
    refine ⟨(k_rmE E (by omega) 0 (Nat.two_pow_pos E) r h3).2, q.2.1, h3, by show r < 10 ^ 1; omega, ?_⟩
    rw [q.2.2 r (by omega)]
    simp
  | n + 1, t, e, r, h => by
    obtain ⟨h1, s0, l, r0, h2, h3, h4, rfl, rfl⟩ := h
    obtain ⟨q1, q2, q3, q4, q5⟩ := pth_pc hE n s0 l r0 h2
    have q6 := k_ad s0 (k_pcE E (by omega) s0 q1).2.1 e (by omega) h4
    refine ⟨(k_rmE E (by omega) s0 q1 e h1).1, by omega, h1, ?_, q6.2.2.1⟩
    rw [Nat.pow_succ]
    omega
theorem Vn_some {E : Nat} {lo : Nat → Bool} {fo : Nat → Nat → Nat → Bool} (hE : E ≤ 7) : ∀ (n t e r : Nat), t < 2 ^ E → e < E → Vn E lo fo n t e = some r → pth E lo fo n t e r
  | 0, t, e, r, ht, he, h => by
    unfold Vn at h
    split at h
    · rename_i q
      cases h
      exact ⟨q.1, q.2, he, rfl⟩
    · cases h
  | n + 1, t, e, r, ht, he, h => by
    unfold Vn at h
    split at h
    · rename_i q
      obtain ⟨l, l1, l2⟩ := wmn_some _ _ h
      have q6 := k_rm t (k_pcE E (by omega) t ht).2.1 e (by omega) q
      unfold stp at l2
      split at l2
      · rename_i hf
        dsimp only at l2
        cases h3 : Vn E lo fo n (t - 2 ^ e) l with
        | none =>
          rw [h3] at l2
          cases l2
        | some r0 =>
          rw [h3] at l2
          cases l2
          exact ⟨he, t - 2 ^ e, l, r0, Vn_some hE n _ l r0 (by omega) l1 h3, hf, q6.2.2.2, q6.2.2.1.symm, rfl⟩
      · cases l2
    · cases h
theorem Vn_le {E : Nat} {lo : Nat → Bool} {fo : Nat → Nat → Nat → Bool} (hE : E ≤ 7) : ∀ (n t e r : Nat), pth E lo fo n t e r → ∃ q, Vn E lo fo n t e = some q ∧ q ≤ r
  | 0, t, e, r, h => by
    obtain ⟨h1, h2, h3, h4⟩ := h
    refine ⟨e, ?_, by omega⟩
    unfold Vn
    rw [if_pos ⟨h1, h2⟩]
  | n + 1, t, e, r, h => by
    obtain ⟨h1, s0, l, r0, h2, h3, h4, rfl, rfl⟩ := h
    obtain ⟨q1, q2, q3, q4, q5⟩ := pth_pc hE n s0 l r0 h2
    have q6 := k_ad s0 (k_pcE E (by omega) s0 q1).2.1 e (by omega) h4
    obtain ⟨y, y1, y2⟩ := Vn_le hE n s0 l r0 h2
    unfold Vn
    rw [if_pos q6.2.2.1, q6.1]
    obtain ⟨z, z1, z2⟩ := wmn_le (f := stp (fo (n + 1)) (fun l => Vn E lo fo n s0 l) e) E l (10 * y + e) q3 (by
      unfold stp
      rw [if_pos h3]
      dsimp only
      rw [y1]
      rfl)
    exact ⟨z, z1, by omega⟩
/-- best of a list: what it has, and what nothing in it beats -/
theorem bet_top : ∀ (l : List (Nat × Nat)) (s : Option (Nat × Nat)) (c : Nat × Nat), l.foldl bet s = some c → (∀ d, s = some d → ¬ (c.1 < d.1 ∨ (d.1 = c.1 ∧ d.2 < c.2))) ∧ ∀ d, d ∈ l → ¬ (c.1 < d.1 ∨ (d.1 = c.1 ∧ d.2 < c.2))
  | [], s, c, h => ⟨fun d hd => by
      have e : s = some c := h
      rw [e] at hd
      cases hd
      omega, fun d hd => nomatch hd⟩
  | x :: l, s, c, h => by
    obtain ⟨h1, h2⟩ := bet_top l (bet s x) c h
    have hx : ¬ (c.1 < x.1 ∨ (x.1 = c.1 ∧ x.2 < c.2)) ∧ ∀ d, s = some d → ¬ (c.1 < d.1 ∨ (d.1 = c.1 ∧ d.2 < c.2)) := by
      cases s with
      | none => exact ⟨h1 x rfl, fun d hd => nomatch hd⟩
      | some s =>
        by_cases q : s.1 < x.1 ∨ (x.1 = s.1 ∧ x.2 < s.2)
        · have e : bet (some s) x = some x := if_pos q
          have := h1 x e
          exact ⟨this, fun d hd => by cases hd; omega⟩
        · have e : bet (some s) x = some s := if_neg q
          have := h1 s e
          exact ⟨by omega, fun d hd => by cases hd; exact this⟩
    refine ⟨hx.2, fun d hd => ?_⟩
    rcases List.mem_cons.mp hd with rfl | q
    · exact hx.1
    · exact h2 d q
theorem bet_same {l1 l2 : List (Nat × Nat)} (h1 : ∀ c, c ∈ l1 → c ∈ l2) (h2 : ∀ d, d ∈ l2 → ∃ c, c ∈ l1 ∧ c.1 = d.1 ∧ c.2 ≤ d.2) : l1.foldl bet none = l2.foldl bet none := by
  cases e1 : l1.foldl bet none with
  | none =>
    cases l2 with
    | nil => rfl
    | cons d l =>
      obtain ⟨c, q1, _⟩ := h2 d (List.mem_cons_self ..)
      cases l1 with
      | nil => cases q1
      | cons a b =>
        obtain ⟨x, hx⟩ := bet_sm b a
        have hx2 : (a :: b).foldl bet none = some x := hx
        rw [hx2] at e1
        cases e1
  | some c =>
    have m1 : c ∈ l1 := by
      rcases bet_mem _ _ _ e1 with q | q
      · cases q
      · exact q
    cases e2 : l2.foldl bet none with
    | none =>
      have := h1 c m1
      cases l2 with
      | nil => cases this
      | cons a b =>
        obtain ⟨x, hx⟩ := bet_sm b a
        have hx2 : (a :: b).foldl bet none = some x := hx
        rw [hx2] at e2
        cases e2
    | some d =>
      have m2 : d ∈ l2 := by
        rcases bet_mem _ _ _ e2 with q | q
        · cases q
        · exact q
      have t1 := (bet_top _ _ _ e1).2
      have t2 := (bet_top _ _ _ e2).2 c (h1 c m1)
      obtain ⟨c', q1, q2, q3⟩ := h2 d m2
      have t3 := t1 c' q1
      have : c = d := by
        apply Prod.ext
        · omega
        · omega
      rw [this]
/-! the reference's search, as a list -/
def lnS (E : Nat) (ln : Nat → Nat) (v : Nat) : Nat := sumF (fun e => if v.testBit e = true then ln e else 0) E
def t3 (len n r : Nat) : Nat × Nat := (len, n * 100000000 + r)
def dfo (fo : Nat → Nat → Bool) (ln : Nat → Nat) (f : Nat → Nat → Nat → Nat → List (Nat × Nat)) (l g r len : Nat) : Nat → Nat → List (Nat × Nat)
  | 0, _ => []
  | i + 1, o => if !(g.testBit o) && fo l o then f o (g ||| 2 ^ o) (10 * r + o) (len + ln o) ++ dfo fo ln f l g r len i (o + 1) else dfo fo ln f l g r len i (o + 1)
def dfs (E : Nat) (fo : Nat → Nat → Nat → Bool) (ln : Nat → Nat) : Nat → Nat → Nat → Nat → Nat → List (Nat × Nat)
  | 0 => fun _ _ _ _ => []
  | j + 1 => fun l g r len => t3 len (E - j) r :: dfo (fo (E - j)) ln (dfs E fo ln j) l g r len E 0
def dft (E : Nat) (lo : Nat → Bool) (fo : Nat → Nat → Nat → Bool) (ln : Nat → Nat) : Nat → Nat → List (Nat × Nat)
  | 0, _ => []
  | i + 1, d => if lo d then dfs E fo ln E d (2 ^ d) d (ln d) ++ dft E lo fo ln i (d + 1) else dft E lo fo ln i (d + 1)
theorem dfo_mem {fo : Nat → Nat → Bool} {ln : Nat → Nat} {f : Nat → Nat → Nat → Nat → List (Nat × Nat)} {l g r len : Nat} (c : Nat × Nat) : ∀ (i o : Nat), c ∈ dfo fo ln f l g r len i o ↔ ∃ x, o ≤ x ∧ x < o + i ∧ g.testBit x = false ∧ fo l x = true ∧ c ∈ f x (g ||| 2 ^ x) (10 * r + x) (len + ln x)
  | 0, o => ⟨(fun h => nomatch h), fun ⟨x, h1, h2, _⟩ => absurd h2 (by omega)⟩
  | i + 1, o => by
    have ih := dfo_mem (fo := fo) (ln := ln) (f := f) (l := l) (g := g) (r := r) (len := len) c i (o + 1)
    unfold dfo
    by_cases hq : (!(g.testBit o) && fo l o) = true
    · rw [if_pos hq, List.mem_append, ih]
      rw [Bool.and_eq_true, Bool.not_eq_true'] at hq
      constructor
      · rintro (h | ⟨x, h1, h2, h3⟩)
        · exact ⟨o, by omega, by omega, hq.1, hq.2, h⟩
        · exact ⟨x, by omega, by omega, h3⟩
      · rintro ⟨x, h1, h2, h3, h4, h5⟩
        by_cases e : x = o
        · subst e
          exact Or.inl h5
        · exact Or.inr ⟨x, by omega, by omega, h3, h4, h5⟩
    · rw [if_neg hq, ih]
      constructor
      · rintro ⟨x, h1, h2, h3⟩
        exact ⟨x, by omega, by omega, h3⟩
      · rintro ⟨x, h1, h2, h3, h4, h5⟩
        by_cases e : x = o
        · subst e
          exact absurd (by rw [h3, h4]; rfl) hq
        · exact ⟨x, by omega, by omega, h3, h4, h5⟩
theorem lnS_add {E : Nat} {ln : Nat → Nat} {v o : Nat} (ho : o < E) (hb : v.testBit o = false) : lnS E ln (v ||| 2 ^ o) = lnS E ln v + ln o := by
  refine sumF_1 E _ _ o (ln o) ho (fun i _ hi => ?_) ?_
  · rw [tb_or]
    have : ¬ o = i := fun q => hi q.symm
    simp [this]
  · rw [tb_or, hb]
    simp
theorem dfs_sound {E : Nat} {lo : Nat → Bool} {fo : Nat → Nat → Nat → Bool} {ln : Nat → Nat} (hE : E ≤ 7) : ∀ (j n l g r : Nat) (c : Nat × Nat), n + j = E → pth E lo fo n g l r → c ∈ dfs E fo ln j l g r (lnS E ln g) → ∃ n' g' l' r', pth E lo fo n' g' l' r' ∧ c = t3 (lnS E ln g') (n' + 1) r'
  | 0, n, l, g, r, c, _, _, hc => nomatch hc
  | j + 1, n, l, g, r, c, hj, hp, hc => by
    have e1 : E - j = n + 1 := by omega
    unfold dfs at hc
    rw [e1] at hc
    rcases List.mem_cons.mp hc with rfl | hc
    · exact ⟨n, g, l, r, hp, rfl⟩
    · obtain ⟨x, h1, h2, h3, h4, h5⟩ := (dfo_mem c E 0).mp hc
      have hx : x < E := by omega
      rw [← lnS_add hx h3] at h5
      exact dfs_sound (lo := lo) hE j (n + 1) x (g ||| 2 ^ x) (10 * r + x) c (by omega) ⟨hx, g, l, r, hp, h4, h3, rfl, rfl⟩ h5
theorem dft_mem {E : Nat} {lo : Nat → Bool} {fo : Nat → Nat → Nat → Bool} {ln : Nat → Nat} (c : Nat × Nat) : ∀ (i d : Nat), c ∈ dft E lo fo ln i d ↔ ∃ x, d ≤ x ∧ x < d + i ∧ lo x = true ∧ c ∈ dfs E fo ln E x (2 ^ x) x (ln x)
  | 0, d => ⟨(fun h => nomatch h), fun ⟨x, h1, h2, _⟩ => absurd h2 (by omega)⟩
  | i + 1, d => by
    have ih := dft_mem (E := E) (lo := lo) (fo := fo) (ln := ln) c i (d + 1)
    unfold dft
    by_cases hq : lo d = true
    · rw [if_pos hq, List.mem_append, ih]
      constructor
      · rintro (h | ⟨x, h1, h2, h3⟩)
        · exact ⟨d, by omega, by omega, hq, h⟩
        · exact ⟨x, by omega, by omega, h3⟩
      · rintro ⟨x, h1, h2, h3, h4⟩
        by_cases e : x = d
        · subst e
          exact Or.inl h4
        · exact Or.inr ⟨x, by omega, by omega, h3, h4⟩
    · rw [if_neg hq, ih]
      constructor
      · rintro ⟨x, h1, h2, h3⟩
        exact ⟨x, by omega, by omega, h3⟩
      · rintro ⟨x, h1, h2, h3, h4⟩
        by_cases e : x = d
        · subst e
          exact absurd h3 hq
        · exact ⟨x, by omega, by omega, h3, h4⟩
theorem lnS_1 {E : Nat} {ln : Nat → Nat} {d : Nat} (hd : d < E) : lnS E ln (2 ^ d) = ln d := by
  have h := lnS_add (E := E) (ln := ln) (v := 0) (o := d) hd (by simp)
  rw [Nat.zero_or] at h
  rw [h]
  have : lnS E ln 0 = 0 := sumF_0 _ _ (fun i _ => by simp)
  omega
theorem dft_all {E : Nat} {lo : Nat → Bool} {fo : Nat → Nat → Nat → Bool} {ln : Nat → Nat} (hE : E ≤ 7) : ∀ (n g l r : Nat), pth E lo fo n g l r → ∀ c, c ∈ dfs E fo ln (E - n) l g r (lnS E ln g) → c ∈ dft E lo fo ln E 0
  | 0, g, l, r, hp, c, hc => by
    obtain ⟨rfl, h2, h3, rfl⟩ := hp
    rw [lnS_1 h3] at hc
    exact (dft_mem c E 0).mpr ⟨r, by omega, by omega, h2, hc⟩
  | n + 1, g, l, r, hp, c, hc => by
    have hq := pth_pc hE (n + 1) g l r hp
    have hn := (k_pcE E (by omega) g hq.1).1
    obtain ⟨h1, s0, l0, r0, h2, h3, h4, rfl, rfl⟩ := hp
    refine dft_all hE n s0 l0 r0 h2 c ?_
    rw [show E - n = (E - (n + 1)) + 1 by omega]
    unfold dfs
    refine List.mem_cons_of_mem _ ((dfo_mem c E 0).mpr ⟨l, by omega, by omega, h4, ?_, ?_⟩)
    · rw [show E - (E - (n + 1)) = n + 1 by omega]
      exact h3
    · rw [lnS_add h1 h4] at hc
      exact hc
theorem dft_in {E : Nat} {lo : Nat → Bool} {fo : Nat → Nat → Nat → Bool} {ln : Nat → Nat} (hE : E ≤ 7) {n g l r : Nat} (hp : pth E lo fo n g l r) : t3 (lnS E ln g) (n + 1) r ∈ dft E lo fo ln E 0 := by
  have hq := pth_pc hE n g l r hp
  have hn := (k_pcE E (by omega) g hq.1).1
  refine dft_all hE n g l r hp _ ?_
  rw [show E - n = (E - (n + 1)) + 1 by omega]
  unfold dfs
  rw [show E - (E - (n + 1)) = n + 1 by omega]
  exact List.mem_cons_self ..
theorem dft_out {E : Nat} {lo : Nat → Bool} {fo : Nat → Nat → Nat → Bool} {ln : Nat → Nat} (hE : E ≤ 7) {c : Nat × Nat} (hc : c ∈ dft E lo fo ln E 0) : ∃ n g l r, pth E lo fo n g l r ∧ c = t3 (lnS E ln g) (n + 1) r := by
  obtain ⟨x, h1, h2, h3, h4⟩ := (dft_mem c E 0).mp hc
  have hx : x < E := by omega
  rw [← lnS_1 (ln := ln) hx] at h4
  exact dfs_sound (lo := lo) hE E 0 x (2 ^ x) x c (by omega) ⟨rfl, h3, hx, rfl⟩ h4
/-! the class's list: of each set the least row -/
def lrF (E : Nat) (lo : Nat → Bool) (fo : Nat → Nat → Nat → Bool) (t : Nat) : Option Nat := wmn (fun e => Vn E lo fo (pc t - 1) t e) E
def csl (E : Nat) (lo : Nat → Bool) (fo : Nat → Nat → Nat → Bool) (ln : Nat → Nat) : Nat → Nat → List (Nat × Nat)
  | 0, _ => []
  | i + 1, t => match lrF E lo fo t with
    | none => csl E lo fo ln i (t + 1)
    | some r => t3 (lnS E ln t) (pc t) r :: csl E lo fo ln i (t + 1)
theorem csl_mem {E : Nat} {lo : Nat → Bool} {fo : Nat → Nat → Nat → Bool} {ln : Nat → Nat} (c : Nat × Nat) : ∀ (i t : Nat), c ∈ csl E lo fo ln i t ↔ ∃ x r, t ≤ x ∧ x < t + i ∧ lrF E lo fo x = some r ∧ c = t3 (lnS E ln x) (pc x) r
  | 0, t => ⟨(fun h => nomatch h), fun ⟨x, r, h1, h2, _⟩ => absurd h2 (by omega)⟩
  | i + 1, t => by
    have ih := csl_mem (E := E) (lo := lo) (fo := fo) (ln := ln) c i (t + 1)
    unfold csl
    cases hq : lrF E lo fo t with
    | none =>
      dsimp only
      rw [ih]
      constructor
      · rintro ⟨x, r, h1, h2, h3⟩
        exact ⟨x, r, by omega, by omega, h3⟩
      · rintro ⟨x, r, h1, h2, h3, h4⟩
        by_cases e : x = t
        · subst e
          rw [hq] at h3
          cases h3
        · exact ⟨x, r, by omega, by omega, h3, h4⟩
    | some r0 =>
      dsimp only
      rw [List.mem_cons, ih]
      constructor
      · rintro (h | ⟨x, r, h1, h2, h3⟩)
        · exact ⟨t, r0, by omega, by omega, hq, h⟩
        · exact ⟨x, r, by omega, by omega, h3⟩
      · rintro ⟨x, r, h1, h2, h3, h4⟩
        by_cases e : x = t
        · subst e
          rw [hq] at h3
          cases h3
          exact Or.inl h4
        · exact Or.inr ⟨x, r, by omega, by omega, h3, h4⟩
theorem tale_same {E : Nat} {lo : Nat → Bool} {fo : Nat → Nat → Nat → Bool} {ln : Nat → Nat} (hE : E ≤ 7) : (csl E lo fo ln (2 ^ E - 1) 1).foldl bet none = (dft E lo fo ln E 0).foldl bet none := by
  have hp2 := Nat.two_pow_pos E
  refine bet_same (fun c hc => ?_) (fun d hd => ?_)
  · obtain ⟨x, r, h1, h2, h3, rfl⟩ := (csl_mem c _ _).mp hc
    have hx : x < 2 ^ E := by omega
    obtain ⟨l, l1, l2⟩ := wmn_some _ _ h3
    have hp := Vn_some hE _ x l r hx l1 l2
    have hq := pth_pc hE _ _ _ _ hp
    have := dft_in (ln := ln) hE hp
    rw [hq.2.1]
    exact this
  · obtain ⟨n, g, l, r, hp, rfl⟩ := dft_out hE hd
    have hq := pth_pc hE _ _ _ _ hp
    obtain ⟨q, q1, q2⟩ := Vn_le hE n g l r hp
    obtain ⟨z, z1, z2⟩ := wmn_le (f := fun e => Vn E lo fo (pc g - 1) g e) E l q hq.2.2.1 (by
      rw [show pc g - 1 = n by omega]
      exact q1)
    refine ⟨t3 (lnS E ln g) (pc g) z, (csl_mem _ _ _).mpr ⟨g, z, ?_, by omega, z1, rfl⟩, rfl, ?_⟩
    · rcases Nat.eq_zero_or_pos g with e | e
      · rw [e] at hq
        have := hq.2.1
        simp [pc] at this
      · omega
    · rw [hq.2.1]
      show (n + 1) * 100000000 + z ≤ (n + 1) * 100000000 + r
      omega
