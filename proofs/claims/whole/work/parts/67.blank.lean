/-! blankets: the fewest, both ways -/
def ldS (p f : Nat → Nat) (n b : Nat) : Nat := sumF (fun j => if f j = b then p j else 0) n
def fea (K w : Nat) (p f : Nat → Nat) (B : Nat) : Prop := (∀ i, i < K → f i < B) ∧ ∀ b, b < B → ldS p f K b ≤ w
theorem inj_le {n B : Nat} {σ : Nat → Nat} (h1 : ∀ x, x < n → σ x < B) (h2 : ∀ x y, x < n → y < n → σ x = σ y → x = y) : n ≤ B := by
  have h := nd_len B ((List.range n).map σ) (by
    unfold List.Nodup
    rw [List.pairwise_map]
    exact List.nodup_range.imp_of_mem (fun {a b} ha hb hne e => hne (h2 a b (List.mem_range.mp ha) (List.mem_range.mp hb) e))) (fun d hd => by
    obtain ⟨x, hx, rfl⟩ := List.mem_map.mp hd
    exact h1 x (List.mem_range.mp hx))
  simpa using h
theorem sumF_mo : ∀ (n : Nat) (f g : Nat → Nat), (∀ i, i < n → f i ≤ g i) → sumF f n ≤ sumF g n
  | 0, _, _, _ => Nat.le_refl _
  | n + 1, f, g, h => by
    rw [sumF_s, sumF_s]
    have h1 := sumF_mo n f g (fun i hi => h i (by omega))
    have h2 := h n (by omega)
    omega
theorem sumF_pre (f : Nat → Nat) (n : Nat) : ∀ (k : Nat), sumF f n ≤ sumF f (n + k)
  | 0 => Nat.le_refl _
  | k + 1 => by
    have h := sumF_pre f n k
    show _ ≤ sumF f (n + k) + f (n + k)
    omega
def asg (a : Nat → Nat) (i b : Nat) : Nat → Nat := fun x => if x = i then b else a x
theorem ld_asg {p a : Nat → Nat} {i b c : Nat} : ldS p (asg a i b) (i + 1) c = ldS p a i c + (if b = c then p i else 0) := by
  unfold ldS
  rw [sumF_s]
  have e1 : asg a i b i = b := if_pos rfl
  rw [e1, sumF_c i _ (fun j => if a j = c then p j else 0) (fun j hj => by
    have : asg a i b j = a j := if_neg (by omega)
    rw [this])]
/-- a piece goes where a packing has it -/
theorem ld_cmp {K w i B b : Nat} {p a f σ : Nat → Nat} (hi : i < K) (hf : fea K w p f B) (hc : ∀ x, x < i → σ (a x) = f x) (hb : σ b = f i) : ldS p a i b + p i ≤ w := by
  have h1 : ldS p a i b ≤ ldS p f i (f i) := sumF_mo i _ _ (fun x hx => by
    by_cases q : a x = b
    · have : f x = f i := by rw [← hc x hx, q, hb]
      rw [if_pos q, if_pos this]
      exact Nat.le_refl _
    · rw [if_neg q]
      exact Nat.zero_le _)
  have h2 : ldS p f (i + 1) (f i) = ldS p f i (f i) + p i := by
    unfold ldS
    rw [sumF_s, if_pos rfl]
  have h3 : ldS p f (i + 1) (f i) ≤ ldS p f K (f i) := by
    have := sumF_pre (fun j => if f j = f i then p j else 0) (i + 1) (K - (i + 1))
    rw [show i + 1 + (K - (i + 1)) = K by omega] at this
    exact this
  have h4 := hf.2 (f i) (hf.1 i hi)
  omega
theorem m_lay {K N w : Nat} {p : Nat → Nat} (hN : 12 ≤ N) (hK : K ≤ 7) (hw : w ≤ 140) (hp : ∀ j, j < K → 1 ≤ p j ∧ p j ≤ w) : ∀ (j d : Nat) (T : SS) (i used F : Nat) (a : Nat → Nat), i + j = K → j < d → used ≤ i → gi T 52 37 = nI K → (∀ x, x < K → T.1 72 x = nI (p x)) → (∀ b, b < 7 → T.1 73 b = nI (ldS p a i b)) → (∀ x, x < i → a x < used) → (∀ b, ldS p a i b ≤ w) → gi T 52 38 = nI F → F ≤ 8 → ∃ T2 F', fX12_tryLay N d T (nI i) (nI used) (nI w) = some T2 ∧ FT [73] T T2 ∧ gi T2 52 37 = nI K ∧ (∀ b, b < 7 → T2.1 73 b = T.1 73 b) ∧ gi T2 52 38 = nI F' ∧ F' ≤ F ∧ (F' = F ∨ ∃ f, fea K w p f F') ∧ ∀ (f σ : Nat → Nat) (B : Nat), fea K w p f B → (∀ x, x < i → σ (a x) = f x) → (∀ x y, x < used → y < used → σ x = σ y → x = y) → (∀ x, x < used → σ x < B) → F' ≤ B := by
  intro j
  induction j with
  | zero =>
    intro d T i used F a hi hd hu h37 h72 h73 ha hl h38 hF
    obtain ⟨d, rfl⟩ : ∃ q, d = q + 1 := ⟨d - 1, by omega⟩
    show ∃ T2 F', fX12_tryLay_b N (fX12_tryLay N d) T (nI i) (nI used) (nI w) = some T2 ∧ _
    unfold fX12_tryLay_b
    rw [h37, h38]
    have hiK : i = K := by omega
    by_cases c1 : used < F
    · rw [if_pos (nI_lt c1 (by omega)), if_pos (by rw [hiK]), lt_s9]
      refine ⟨_, used, rfl, FT.pj (by unfold scj; omega), by rw [gi_ne (by omega)]; exact h37, fun b hb => rfl, by rw [gi_pj]; rfl, by omega, Or.inr ⟨a, fun x hx => ha x (by omega), fun b hb => by rw [← hiK]; exact hl b⟩, fun f σ B hf h1 h2 h3 => inj_le h3 h2⟩
    · rw [if_neg (nI_nlt (by omega) (by omega))]
      exact ⟨T, F, rfl, FT.rf, h37, fun _ _ => rfl, h38, Nat.le_refl _, Or.inl rfl, fun f σ B hf h1 h2 h3 => by
        have := inj_le h3 h2
        omega⟩
  | succ j ih =>
    intro d T i used F a hi hd hu h37 h72 h73 ha hl h38 hF
    obtain ⟨d, rfl⟩ : ∃ q, d = q + 1 := ⟨d - 1, by omega⟩
    have hiK : i < K := by omega
    have hpi := hp i hiK
    show ∃ T2 F', fX12_tryLay_b N (fX12_tryLay N d) T (nI i) (nI used) (nI w) = some T2 ∧ _
    unfold fX12_tryLay_b
    rw [h37, h38]
    by_cases c0 : F ≤ used
    · rw [if_neg (nI_nlt (by omega) (by omega))]
      exact ⟨T, F, rfl, FT.rf, h37, fun _ _ => rfl, h38, Nat.le_refl _, Or.inl rfl, fun f σ B hf h1 h2 h3 => by
        have := inj_le h3 h2
        omega⟩
    have c1 : used < F := by omega
    rw [if_pos (nI_lt c1 (by omega)), if_neg (fun z => by
      have := (nI_eq (by omega) (by omega)).mp z
      omega)]
    have hz : ldS p a i used = 0 := sumF_0 i _ (fun x hx => by
      have := ha x hx
      rw [if_neg (by omega)])
    have loop : ∀ (r b n : Nat) (T' : SS) (F0 : Nat), b + r = used + 1 → r < n → FT [73] T T' → gi T' 52 37 = nI K → (∀ c, c < 7 → T'.1 73 c = T.1 73 c) → gi T' 52 38 = nI F0 → F0 ≤ F → (F0 = F ∨ ∃ f, fea K w p f F0) → ∃ T2 F', fX12_tryLay_l26 N (fX12_tryLay N d) n (nI i) (nI used) (nI w) (nI b) T' = some T2 ∧ FT [73] T T2 ∧ gi T2 52 37 = nI K ∧ (∀ c, c < 7 → T2.1 73 c = T.1 73 c) ∧ gi T2 52 38 = nI F' ∧ F' ≤ F0 ∧ (F' = F ∨ ∃ f, fea K w p f F') ∧ ∀ (f σ : Nat → Nat) (B : Nat), fea K w p f B → (∀ x, x < i → σ (a x) = f x) → (∀ x y, x < used → y < used → σ x = σ y → x = y) → (∀ x, x < used → σ x < B) → ∀ b', b ≤ b' → b' ≤ used → ((b' < used ∧ σ b' = f i) ∨ (b' = used ∧ ∀ x, x < used → σ x ≠ f i)) → F' ≤ B := by
      intro r
      induction r with
      | zero =>
        intro b n T' F0 hb hn fT k37 h73' h38' hF0 hs
        obtain ⟨n, rfl⟩ : ∃ q, n = q + 1 := ⟨n - 1, by omega⟩
        unfold fX12_tryLay_l26
        rw [if_pos (nI_lt (by omega) (by omega))]
        exact ⟨T', F0, rfl, fT, k37, h73', h38', Nat.le_refl _, hs, fun f σ B _ _ _ _ b' q1 q2 => by omega⟩
      | succ r ihr =>
        intro b n T' F0 hb hn fT k37 h73' h38' hF0 hs
        obtain ⟨n, rfl⟩ : ∃ q, n = q + 1 := ⟨n - 1, by omega⟩
        have hbu : b ≤ used := by omega
        have e73 : T'.1 73 b = nI (ldS p a i b) := by rw [h73' b (by omega), h73 b (by omega)]
        have e72 : T'.1 72 i = nI (p i) := by rw [fT.row (k := 72) (by decide) (by decide)]; exact h72 i hiK
        have hlb := hl b
        unfold fX12_tryLay_l26
        rw [if_neg (nI_nlt (by omega) (by omega))]
        simp (disch := omega) only [ck_in, lt_s9]
        rw [ga_nI (by omega), ga_nI (by omega), e73, e72, nI_add, nI_1, nI_1, nI_1]
        by_cases c2 : w < ldS p a i b + p i
        · rw [if_pos (nI_lt c2 (by omega))]
          obtain ⟨T2, F', z1, z2, z2k, z3, z4, z5, z6, z7⟩ := ihr (b + 1) n T' F0 (by omega) (by omega) fT k37 h73' h38' hF0 hs
          refine ⟨T2, F', z1, z2, z2k, z3, z4, z5, z6, fun f σ B hf h1 h2 h3 b' q1 q2 q3 => z7 f σ B hf h1 h2 h3 b' ?_ q2 q3⟩
          rcases Nat.lt_or_eq_of_le q1 with q4 | q4
          · exact q4
          · exfalso
            rcases q3 with ⟨q5, q6⟩ | ⟨q5, q6⟩
            · rw [← q4] at q6
              have := ld_cmp hiK hf h1 q6
              omega
            · have : b = used := by omega
              rw [this, hz] at c2
              omega
        · rw [if_neg (nI_nlt (by omega) (by omega))]
          have u1 : ∀ (used' : Nat), used' = (if b = used then used + 1 else used) → ∃ T2 F', fX12_tryLay_j83 N (fX12_tryLay N d) (fX12_tryLay_l26 N (fX12_tryLay N d) n) (nI i) (nI used) (nI w) (nI b) (nI used') (nI (i + 1)) (pa T' 73 (nI b) (nI (ldS p a i b + p i))) = some T2 ∧ FT [73] T T2 ∧ gi T2 52 37 = nI K ∧ (∀ c, c < 7 → T2.1 73 c = T.1 73 c) ∧ gi T2 52 38 = nI F' ∧ F' ≤ F0 ∧ (F' = F ∨ ∃ f, fea K w p f F') ∧ ∀ (f σ : Nat → Nat) (B : Nat), fea K w p f B → (∀ x, x < i → σ (a x) = f x) → (∀ x y, x < used → y < used → σ x = σ y → x = y) → (∀ x, x < used → σ x < B) → ∀ b', b ≤ b' → b' ≤ used → ((b' < used ∧ σ b' = f i) ∨ (b' = used ∧ ∀ x, x < used → σ x ≠ f i)) → F' ≤ B := fun used' hu' => by
            have f9 : FT [73] T' (pa T' 73 (nI b) (nI (ldS p a i b + p i))) := FT.of (Fr.pa (by decide))
            have hu1 : used' ≤ i + 1 ∧ b < used' ∧ used ≤ used' := by
              rw [hu']
              split <;> omega
            obtain ⟨T2, F1, y1, y2, y2k, y3, y4, y5, y6, y7⟩ := ih d (pa T' 73 (nI b) (nI (ldS p a i b + p i))) (i + 1) used' F0 (asg a i b) (by omega) (by omega) (by omega) k37 (fun x hx => by
                show T'.1 72 x = nI (p x)
                rw [fT.row (k := 72) (by decide) (by decide)]
                exact h72 x hx) (fun c hc => by
                rw [ld_asg, row_pa, if_pos rfl, nI_clamp (by omega)]
                by_cases q : c = b
                · rw [q, pk_us, if_pos rfl]
                · rw [pk_un q, if_neg (fun z => q z.symm), h73' c hc, h73 c hc]
                  rfl) (fun x hx => by
                unfold asg
                by_cases q : x = i
                · rw [if_pos q]
                  exact hu1.2.1
                · rw [if_neg q]
                  have := ha x (by omega)
                  omega) (fun c => by
                rw [ld_asg]
                by_cases q : b = c
                · rw [if_pos q, ← q]
                  omega
                · rw [if_neg q]
                  exact hl c) h38' (by omega)
            unfold fX12_tryLay_j83
            rw [bd_s y1]
            simp (disch := omega) only [ck_in, lt_s9]
            have g73 : T2.1 73 b = nI (ldS p a i b + p i) := by
              rw [y3 b (by omega), row_pa, if_pos rfl, nI_clamp (by omega), pk_us]
            have g72 : T2.1 72 i = nI (p i) := by
              rw [y2.row (k := 72) (by decide) (by decide)]
              exact e72
            rw [ga_nI (by omega), ga_nI (by omega), g73, g72, nI_1, pk_sub (by omega), show ldS p a i b + p i - p i = ldS p a i b by omega]
            obtain ⟨T3, F', z1, z2, z2k, z3, z4, z5, z6, z7⟩ := ihr (b + 1) n (pa T2 73 (nI b) (nI (ldS p a i b))) F1 (by omega) (by omega) (((fT.tr f9).tr y2).tr (FT.of (Fr.pa (by decide)))) y2k (fun c hc => by
                rw [row_pa, if_pos rfl, nI_clamp (by omega)]
                by_cases q : c = b
                · rw [q, pk_us, h73 b (by omega)]
                · rw [pk_un q, y3 c hc, row_pa, if_pos rfl, nI_clamp (by omega), pk_un q, h73' c hc]) y4 (by omega) (by
                rcases y6 with y6 | y6
                · rw [y6]
                  exact hs
                · exact Or.inr y6)
            refine ⟨T3, F', z1, z2, z2k, z3, z4, by omega, z6, fun f σ B hf h1 h2 h3 b' q1 q2 q3 => ?_⟩
            rcases Nat.lt_or_eq_of_le q1 with q4 | q4
            · exact z7 f σ B hf h1 h2 h3 b' q4 q2 q3
            · subst q4
              have hfi := hf.1 i hiK
              rcases q3 with ⟨q5, q6⟩ | ⟨q5, q6⟩
              · have hu'' : used' = used := by rw [hu', if_neg (by omega)]
                rw [hu''] at y7
                have := y7 f σ B hf (fun x hx => by
                  unfold asg
                  by_cases q : x = i
                  · rw [if_pos q, q]
                    exact q6
                  · rw [if_neg q]
                    exact h1 x (by omega)) h2 h3
                omega
              · have hu'' : used' = used + 1 := by rw [hu', if_pos q5]
                rw [hu''] at y7
                have := y7 f (fun x => if x = used then f i else σ x) B hf (fun x hx => by
                  unfold asg
                  by_cases q : x = i
                  · rw [if_pos q, if_pos q5, q]
                  · have := ha x (by omega)
                    rw [if_neg q, if_neg (by omega)]
                    exact h1 x (by omega)) (fun x y hx hy e => by
                  by_cases qx : x = used
                  · by_cases qy : y = used
                    · omega
                    · rw [if_pos qx, if_neg qy] at e
                      exact absurd e.symm (q6 y (by omega))
                  · by_cases qy : y = used
                    · rw [if_neg qx, if_pos qy] at e
                      exact absurd e (q6 x (by omega))
                    · rw [if_neg qx, if_neg qy] at e
                      exact h2 x y (by omega) (by omega) e) (fun x hx => by
                  by_cases qx : x = used
                  · rw [if_pos qx]
                    exact hfi
                  · rw [if_neg qx]
                    exact h3 x (by omega))
                omega
          by_cases c3 : b = used
          · rw [if_pos (by rw [c3])]
            exact u1 (used + 1) (by rw [if_pos c3])
          · rw [if_neg (fun z => c3 ((nI_eq (by omega) (by omega)).mp z))]
            exact u1 used (by rw [if_neg c3])
    obtain ⟨T2, F', z1, z2, z2k, z3, z4, z5, z6, z7⟩ := loop (used + 1) 0 N T F (by omega) (by omega) FT.rf h37 (fun _ _ => rfl) h38 (Nat.le_refl _) (Or.inl rfl)
    refine ⟨T2, F', z1, z2, z2k, z3, z4, z5, z6, fun f σ B hf h1 h2 h3 => ?_⟩
    by_cases q : ∃ x, x < used ∧ σ x = f i
    · obtain ⟨x, x1, x2⟩ := q
      exact z7 f σ B hf h1 h2 h3 x (by omega) (by omega) (Or.inl ⟨x1, x2⟩)
    · exact z7 f σ B hf h1 h2 h3 used (by omega) (Nat.le_refl _) (Or.inr ⟨rfl, fun x hx z => q ⟨x, hx, z⟩⟩)
/-! the class's table of fills -/
def lay (w v q : Nat) : Nat := if v % 1000 + q ≤ w then v + q else (v / 1000 + 1) * 1000 + q
theorem lay_mono {w v v' q : Nat} (hw : w ≤ 140) (h : v ≤ v') (hv : v' % 1000 ≤ w) (hq : q ≤ w) : lay w v q ≤ lay w v' q := by
  unfold lay
  split <;> split <;> omega
theorem c_lay {N w v q : Nat} (hw : w ≤ 140) (hv : v ≤ 9000) (hq : q ≤ 140) : fX0_layIn N (nI v) (nI q) (nI w) = some (nI (lay w v q)) := by
  have e1 : ir (nI v) 1000 = nI (v % 1000) := pk_rem (d := 1000) (by omega) (by omega) (by omega)
  have e2 : nI v / 1000 = nI (v / 1000) := pk_div (d := 1000) (by omega) (by omega) (by omega)
  unfold fX0_layIn lay
  rw [e1, e2, nI_add, nI_add, nI_1]
  by_cases h : v % 1000 + q ≤ w
  · rw [if_neg (nI_nlt (by omega) (by omega)), if_pos h]
  · rw [if_pos (nI_lt (by omega) (by omega)), if_neg h]
    show some (nI (v / 1000 + 1) * nI 1000 + nI q) = _
    rw [pk_mul, nI_add]
theorem mn_N2 {a b : Nat} (ha : a < 2 ^ 31) (hb : b < 2 ^ 31) : mn (nI a) (nI b) = nI (min a b) := by
  show (if nI b < nI a then nI b else nI a) = _
  by_cases h : b < a
  · rw [if_pos (nI_lt h ha), Nat.min_eq_right (by omega)]
  · rw [if_neg (nI_nlt (by omega) hb), Nat.min_eq_left (by omega)]
def ldT (K : Nat) (p f : Nat → Nat) (t b : Nat) : Nat := sumF (fun x => if t.testBit x = true ∧ f x = b then p x else 0) K
def sndF (K w : Nat) (p : Nat → Nat) (t v : Nat) : Prop := ∃ f c l, v = c * 1000 + l ∧ l ≤ w ∧ (∀ x, x < K → t.testBit x = true → f x < c) ∧ (∀ b, b < c → ldT K p f t b ≤ w) ∧ (c = 0 → l = w) ∧ ∀ b, b + 1 = c → ldT K p f t b = l
theorem ldT_add {K t x d b : Nat} {p f : Nat → Nat} (hx : x < K) (hb : t.testBit x = false) : ldT K p (asg f x d) (t ||| 2 ^ x) b = ldT K p f t b + (if d = b then p x else 0) := by
  unfold ldT
  have ex : (t ||| 2 ^ x).testBit x = true := by
    rw [tb_or]
    simp
  have ea : asg f x d x = d := if_pos rfl
  have eo : ∀ i, i ≠ x → (t ||| 2 ^ x).testBit i = t.testBit i ∧ asg f x d i = f i := fun i hi => by
    have : ¬ x = i := fun z => hi z.symm
    exact ⟨by rw [tb_or]; simp [this], if_neg hi⟩
  by_cases h : d = b
  · rw [if_pos h]
    refine sumF_1 K _ _ x (p x) hx (fun i _ hi => by rw [(eo i hi).1, (eo i hi).2]) ?_
    rw [ex, ea, hb, if_pos ⟨rfl, h⟩]
    simp
  · rw [if_neg h, Nat.add_zero]
    refine sumF_c K _ _ (fun i _ => ?_)
    by_cases hi : i = x
    · subst hi
      rw [ea, hb, if_neg (fun z => h z.2)]
      simp
    · rw [(eo i hi).1, (eo i hi).2]
theorem snd_lay {K w t v x : Nat} {p : Nat → Nat} (hw : w ≤ 140) (hx : x < K) (hp : 1 ≤ p x ∧ p x ≤ w) (hb : t.testBit x = false) (h : sndF K w p t v) : sndF K w p (t ||| 2 ^ x) (lay w v (p x)) := by
  obtain ⟨f, c, l, rfl, h2, h3, h4, h5, h6⟩ := h
  have e1 : (c * 1000 + l) % 1000 = l := by omega
  have e2 : (c * 1000 + l) / 1000 = c := by omega
  have hz : ldT K p f t c = 0 := sumF_0 K _ (fun y hy => by
    rw [if_neg]
    intro z
    have := h3 y hy z.1
    omega)
  unfold lay
  rw [e1, e2]
  by_cases q : l + p x ≤ w
  · have hc : 0 < c := by
      rcases Nat.eq_zero_or_pos c with z | z
      · have := h5 z
        omega
      · exact z
    rw [if_pos q]
    refine ⟨asg f x (c - 1), c, l + p x, by omega, q, fun y hy hty => ?_, fun b hbc => ?_, fun z => by omega, fun b hbc => ?_⟩
    · by_cases e : y = x
      · rw [show asg f x (c - 1) y = c - 1 from if_pos e]
        omega
      · rw [show asg f x (c - 1) y = f y from if_neg e]
        rw [tb_or] at hty
        have : ¬ x = y := fun z => e z.symm
        simp [this] at hty
        exact h3 y hy hty
    · rw [ldT_add hx hb]
      by_cases e : c - 1 = b
      · rw [if_pos e, h6 b (by omega)]
        exact q
      · rw [if_neg e]
        exact h4 b hbc
    · rw [ldT_add hx hb, if_pos (by omega), h6 b hbc]
  · rw [if_neg q]
    refine ⟨asg f x c, c + 1, p x, rfl, hp.2, fun y hy hty => ?_, fun b hbc => ?_, fun z => by omega, fun b hbc => ?_⟩
    · by_cases e : y = x
      · rw [show asg f x c y = c from if_pos e]
        omega
      · rw [show asg f x c y = f y from if_neg e]
        rw [tb_or] at hty
        have : ¬ x = y := fun z => e z.symm
        simp [this] at hty
        have := h3 y hy hty
        omega
    · rw [ldT_add hx hb]
      by_cases e : c = b
      · rw [if_pos e, ← e, hz]
        omega
      · rw [if_neg e]
        have := h4 b (by omega)
        omega
    · have e : c = b := by omega
      rw [ldT_add hx hb, if_pos e, ← e, hz]
      omega
def dpI (K w : Nat) (p φ : Nat → Nat) (s i : Nat) : Prop := φ 0 = w ∧ (∀ t, t < 2 ^ K → φ t ≤ 8000) ∧ (∀ t, t < 2 ^ K → φ t < 8000 → sndF K w p t (φ t)) ∧ ∀ t x, t < 2 ^ K → x < K → t.testBit x = false → (t < s ∨ (t = s ∧ x < i)) → φ (t ||| 2 ^ x) ≤ lay w (φ t) (p x)
theorem k_same : ∀ s, s < 128 → ∀ i, i < 7 → (s ||| 2 ^ i = s ↔ s.testBit i = true) ∧ s ≤ s ||| 2 ^ i ∧ s ||| 2 ^ i ≠ 0 := by decide +kernel
theorem c_dp_i {K N w : Nat} {p : Nat → Nat} {S0 : SS} (hN : 12 ≤ N) (hK : K ≤ 7) (hw : w ≤ 140) (hp : ∀ j, j < K → 1 ≤ p j ∧ p j ≤ w) (h39 : ∀ x, x < K → S0.1 39 x = nI (p x)) {s : Nat} (hs : s < 2 ^ K) (kc : Int32 → Int32 → Int32 → SS → Option (SS × Int32)) (Q : SS → Int32 → Prop) (hkc : ∀ S φ, Fr [38] S0 S → (∀ t, t < 2 ^ K → S.1 38 t = nI (φ t)) → dpI K w p φ (s + 1) 0 → ∃ S2 r, kc (nI K) (nI w) (nI (s + 1)) S = some (S2, r) ∧ Q S2 r) : ∀ (j i n : Nat) (S : SS) (φ : Nat → Nat), Fr [38] S0 S → (∀ t, t < 2 ^ K → S.1 38 t = nI (φ t)) → dpI K w p φ s i → i + j = K → j < n → ∃ S2 r, fX0_fewestFor_l29 N kc n (nI K) (nI w) (nI s) (nI i) S = some (S2, r) ∧ Q S2 r := by
  have hs2 := (k_pcE K (by omega) s hs).2.1
  intro j
  induction j with
  | zero =>
    intro i n S φ fS h38 hI hi hn
    obtain ⟨n, rfl⟩ : ∃ q, n = q + 1 := ⟨n - 1, by omega⟩
    unfold fX0_fewestFor_l29
    rw [if_pos (nI_le (by omega) (by omega)), lt_s9, nI_1]
    refine hkc S φ fS h38 ⟨hI.1, hI.2.1, hI.2.2.1, fun t x h1 h2 h3 h4 => hI.2.2.2 t x h1 h2 h3 ?_⟩
    omega
  | succ j ih =>
    intro i n S φ fS h38 hI hi hn
    obtain ⟨n, rfl⟩ : ∃ q, n = q + 1 := ⟨n - 1, by omega⟩
    have hiK : i < K := by omega
    have hks := k_same s hs2 i (by omega)
    have hm := (k_rmE K (by omega) s hs i hiK).1
    have hm2 := (k_or s hs2 i (by omega)).2
    unfold fX0_fewestFor_l29
    rw [if_neg (nI_ge (by omega) (by omega)), (k_or s hs2 i (by omega)).1]
    simp only [lt_s9, nI_1]
    by_cases c1 : s ||| 2 ^ i = s
    · rw [if_pos (by rw [c1])]
      refine ih (i + 1) n S φ fS h38 ⟨hI.1, hI.2.1, hI.2.2.1, fun t x h1 h2 h3 h4 => hI.2.2.2 t x h1 h2 h3 ?_⟩ (by omega) (by omega)
      rcases h4 with h4 | ⟨h4, h5⟩
      · exact Or.inl h4
      · by_cases e : x = i
        · rw [h4, e, hks.1.mp c1] at h3
          cases h3
        · exact Or.inr ⟨h4, by omega⟩
    · have hb : s.testBit i = false := eq_false_of_ne_true (fun z => c1 (hks.1.mpr z))
      rw [if_neg (fun z => c1 ((nI_eq (by omega) (by omega)).mp z))]
      simp (disch := omega) only [ck_in]
      have b1 := hI.2.1 s hs
      have b2 := hI.2.1 _ hm
      have b3 := hp i hiK
      have b4 : lay w (φ s) (p i) ≤ 9200 := by
        unfold lay
        split <;> omega
      rw [ga_nI (by omega), ga_nI (by omega), ga_nI (by omega), h38 s hs, h38 _ hm, show S.1 39 i = nI (p i) from (by rw [fS.row (by decide)]; exact h39 i hiK), bd_s (c_lay hw (by omega) (by omega)), mn_N2 (by omega) (by omega)]
      have hlt : s < s ||| 2 ^ i := by
        have := hks.2.1
        omega
      have bl : φ s ≤ lay w (φ s) (p i) := by
        unfold lay
        split <;> omega
      refine ih (i + 1) n _ (fun t => if t = s ||| 2 ^ i then min (φ (s ||| 2 ^ i)) (lay w (φ s) (p i)) else φ t) (fS.tr (Fr.pa (by decide))) (fun t ht => ?_) ⟨?_, fun t ht => ?_, fun t ht h8 => ?_, fun t x h1 h2 h3 h4 => ?_⟩ (by omega) (by omega)
      · rw [row_pa, if_pos rfl, nI_clamp (by omega)]
        by_cases e : t = s ||| 2 ^ i
        · rw [if_pos e, e, pk_us]
        · rw [if_neg e, pk_un e]
          exact h38 t ht
      · dsimp only
        rw [if_neg (Ne.symm hks.2.2)]
        exact hI.1
      · dsimp only
        by_cases e : t = s ||| 2 ^ i
        · rw [if_pos e]
          omega
        · rw [if_neg e]
          exact hI.2.1 t ht
      · dsimp only at h8 ⊢
        by_cases e : t = s ||| 2 ^ i
        · rw [if_pos e] at h8 ⊢
          rw [e]
          by_cases q : φ (s ||| 2 ^ i) ≤ lay w (φ s) (p i)
          · rw [Nat.min_eq_left q] at h8 ⊢
            exact hI.2.2.1 _ hm h8
          · rw [Nat.min_eq_right (by omega)] at h8 ⊢
            exact snd_lay hw hiK b3 hb (hI.2.2.1 s hs (by omega))
        · rw [if_neg e] at h8 ⊢
          exact hI.2.2.1 t ht h8
      · dsimp only
        have ht : ¬ t = s ||| 2 ^ i := by omega
        rw [if_neg ht]
        by_cases e : t ||| 2 ^ x = s ||| 2 ^ i
        · rw [if_pos e]
          by_cases q : t = s ∧ x = i
          · rw [q.1, q.2]
            exact Nat.min_le_right _ _
          · have h5 : t < s ∨ (t = s ∧ x < i) := by omega
            have := hI.2.2.2 t x h1 h2 h3 h5
            rw [e] at this
            exact Nat.le_trans (Nat.min_le_left _ _) this
        · rw [if_neg e]
          refine hI.2.2.2 t x h1 h2 h3 ?_
          by_cases q : t = s ∧ x = i
          · exact absurd (by rw [q.1, q.2]) e
          · omega
theorem c_dp_o {K N w : Nat} {p : Nat → Nat} {S0 : SS} (hN : 12 ≤ N) (hK : K ≤ 7) (hw : w ≤ 140) (hp : ∀ j, j < K → 1 ≤ p j ∧ p j ≤ w) (h39 : ∀ x, x < K → S0.1 39 x = nI (p x)) : ∀ (j s n : Nat) (S : SS) (φ : Nat → Nat), Fr [38] S0 S → (∀ t, t < 2 ^ K → S.1 38 t = nI (φ t)) → dpI K w p φ s 0 → s + j = 2 ^ K → j < n → ∃ S2 r, fX0_fewestFor_l19 N n (nI K) (nI w) (nI s) S = some (S2, r) ∧ Fr [38] S0 S2 ∧ ∃ φ, dpI K w p φ (2 ^ K) 0 ∧ r = nI (φ (2 ^ K - 1) / 1000) := by
  obtain ⟨e1, e2, e3⟩ := k_slE K (by omega)
  have ka := k_all K (by omega)
  intro j
  induction j with
  | zero =>
    intro s n S φ fS h38 hI hs hn
    obtain ⟨n, rfl⟩ : ∃ q, n = q + 1 := ⟨n - 1, by omega⟩
    unfold fX0_fewestFor_l19
    have hs' : s = 2 ^ K := by omega
    rw [ka.1, e1, if_pos (nI_le (by omega) (by omega)), ck_in (by omega) (by omega), ga_nI (by omega), h38 _ (by omega)]
    have b := hI.2.1 (2 ^ K - 1) (by omega)
    refine ⟨S, _, rfl, fS, φ, by rw [← hs']; exact hI, ?_⟩
    exact pk_div (d := 1000) (by omega) (by omega) (by omega)
  | succ j ih =>
    intro s n S φ fS h38 hI hs hn
    obtain ⟨n, rfl⟩ : ∃ q, n = q + 1 := ⟨n - 1, by omega⟩
    unfold fX0_fewestFor_l19
    rw [e1, if_neg (nI_ge (by omega) (by omega))]
    exact c_dp_i hN hK hw hp h39 (show s < 2 ^ K by omega) (fX0_fewestFor_l19 N n) (fun S2 r => Fr [38] S0 S2 ∧ ∃ φ, dpI K w p φ (2 ^ K) 0 ∧ r = nI (φ (2 ^ K - 1) / 1000)) (fun S' φ' f' h' hI' => ih (s + 1) n S' φ' f' h' hI' (by omega) (by omega)) K 0 N S φ fS h38 hI (by omega) (by omega)
theorem c_dp {K N w : Nat} {p : Nat → Nat} {S : SS} (hN : 200 ≤ N) (hK : K ≤ 7) (hw : w ≤ 140) (hp : ∀ j, j < K → 1 ≤ p j ∧ p j ≤ w) (h39 : ∀ x, x < K → S.1 39 x = nI (p x)) : ∃ S2 φ, fX0_fewestFor N S (nI K) (nI w) = some (S2, nI (φ (2 ^ K - 1) / 1000)) ∧ Fr [38] S S2 ∧ dpI K w p φ (2 ^ K) 0 := by
  obtain ⟨e1, e2, e3⟩ := k_slE K (by omega)
  obtain ⟨S1, z1, z2, z3⟩ := fills (N := N) (q := 38) (L := 128) (v := 8000) (S := S) rfl (by omega) (by omega)
  unfold fX0_fewestFor
  rw [bd_s z1, lt_s9]
  obtain ⟨S2, r, y1, y2, φ, y3, y4⟩ := c_dp_o (N := N) (S0 := pa S1 38 0 (nI w)) (by omega) hK hw hp (fun x hx => by
    rw [row_pa, if_neg (by decide), z2.row (by decide)]
    exact h39 x hx) (2 ^ K) 0 N (pa S1 38 0 (nI w)) (fun t => if t = 0 then w else 8000) Fr.rf (fun t ht => by
    rw [row_pa, if_pos rfl, show (0 : Int32).toNatClampNeg = 0 from rfl]
    by_cases e : t = 0
    · rw [e, pk_us, if_pos rfl]
    · rw [pk_un e, if_neg e, z3, if_pos (by omega)]
      rfl) ⟨if_pos rfl, fun t ht => by
      dsimp only
      split <;> omega, fun t ht h8 => by
      dsimp only at h8 ⊢
      by_cases e : t = 0
      · rw [if_pos e, e]
        refine ⟨fun _ => 0, 0, w, by omega, Nat.le_refl _, fun x _ hx => by simp at hx, fun b hb => by omega, fun _ => rfl, fun b hb => by omega⟩
      · rw [if_neg e] at h8
        omega, fun t x _ _ _ h4 => by omega⟩ (by omega) (by omega)
  have y1' : fX0_fewestFor_l19 N N (nI K) (nI w) 0 (pa S1 38 0 (nI w)) = some (S2, r) := y1
  rw [y1', y4]
  exact ⟨S2, φ, rfl, (z2.tr (Fr.pa (by decide))).tr y2, y3⟩
/-- any packing is as good as the table at best -/
theorem dp_cmp {K w B : Nat} {p φ f : Nat → Nat} (hK : K ≤ 7) (hw : w ≤ 140) (hp : ∀ j, j < K → 1 ≤ p j ∧ p j ≤ w) (hI : dpI K w p φ (2 ^ K) 0) (hf : fea K w p f B) : φ (2 ^ K - 1) ≤ B * 1000 + w := by
  have ulast : ∀ b, b ≤ B → φ (bF (fun i => decide (f i < b)) K) ≤ b * 1000 + w := fun b => by
    induction b with
    | zero =>
      intro _
      have : bF (fun i => decide (f i < 0)) K = 0 := by
        apply Nat.eq_of_testBit_eq
        intro e
        rw [bF_tb]
        simp
      rw [this, hI.1]
      omega
    | succ b ihb =>
      intro hb
      have h0 := ihb (by omega)
      have hlb := hf.2 b (by omega)
      have go : ∀ j, j ≤ K → (ldS p f j b = 0 → φ (bF (fun i => decide (f i < b) || (decide (f i = b) && decide (i < j))) K) ≤ b * 1000 + w) ∧ (0 < ldS p f j b → φ (bF (fun i => decide (f i < b) || (decide (f i = b) && decide (i < j))) K) ≤ (b + 1) * 1000 + ldS p f j b) := fun j => by
        induction j with
        | zero =>
          intro _
          have : bF (fun i => decide (f i < b) || (decide (f i = b) && decide (i < 0))) K = bF (fun i => decide (f i < b)) K := bF_c K (fun i _ => by simp)
          rw [this]
          exact ⟨fun _ => h0, fun h => absurd h (by simp [ldS, sumF])⟩
        | succ j ihj =>
          intro hj
          obtain ⟨q1, q2⟩ := ihj (by omega)
          have es : ldS p f (j + 1) b = ldS p f j b + (if f j = b then p j else 0) := by
            unfold ldS
            rw [sumF_s]
          by_cases e : f j = b
          · rw [if_pos e] at es
            have hpj := hp j (by omega)
            have hU : bF (fun i => decide (f i < b) || (decide (f i = b) && decide (i < j + 1))) K = bF (fun i => decide (f i < b) || (decide (f i = b) && decide (i < j))) K ||| 2 ^ j := by
              apply Nat.eq_of_testBit_eq
              intro x
              rw [tb_or, bF_tb, bF_tb]
              by_cases ex : j = x
              · subst ex
                have : j < K := by omega
                simp [this, e]
              · have e1 : decide (x < j + 1) = decide (x < j) := by
                  by_cases q : x < j
                  · have : x < j + 1 := by omega
                    simp [q, this]
                  · have : ¬ x < j + 1 := by omega
                    simp [q, this]
                rw [e1]
                simp [ex]
            have hb2 : (bF (fun i => decide (f i < b) || (decide (f i = b) && decide (i < j))) K).testBit j = false := by
              rw [bF_tb]
              simp [e]
            have hst := hI.2.2.2 _ j (bF_lt _ K) (by omega) hb2 (Or.inl (bF_lt _ K))
            rw [hU]
            have hle : ldS p f (j + 1) b ≤ ldS p f K b := by
              have := sumF_pre (fun i => if f i = b then p i else 0) (j + 1) (K - (j + 1))
              rw [show j + 1 + (K - (j + 1)) = K by omega] at this
              exact this
            refine ⟨fun z => by omega, fun _ => ?_⟩
            rcases Nat.eq_zero_or_pos (ldS p f j b) with z | z
            · have m1 := lay_mono (q := p j) hw (q1 z) (by omega) hpj.2
              have m2 : lay w (b * 1000 + w) (p j) = (b + 1) * 1000 + p j := by
                unfold lay
                rw [if_neg (by omega)]
                omega
              omega
            · have m1 := lay_mono (q := p j) hw (q2 z) (by omega) hpj.2
              have m2 : lay w ((b + 1) * 1000 + ldS p f j b) (p j) = (b + 1) * 1000 + ldS p f j b + p j := by
                unfold lay
                rw [if_pos (by omega)]
              omega
          · rw [if_neg e, Nat.add_zero] at es
            have hU : bF (fun i => decide (f i < b) || (decide (f i = b) && decide (i < j + 1))) K = bF (fun i => decide (f i < b) || (decide (f i = b) && decide (i < j))) K := bF_c K (fun i _ => by
              by_cases q : i = j
              · rw [q]
                simp [e]
              · have e1 : decide (i < j + 1) = decide (i < j) := by
                  by_cases q : i < j
                  · have : i < j + 1 := by omega
                    simp [q, this]
                  · have : ¬ i < j + 1 := by omega
                    simp [q, this]
                rw [e1])
            rw [hU, es]
            exact ⟨q1, q2⟩
      obtain ⟨q1, q2⟩ := go K (Nat.le_refl _)
      have hU : bF (fun i => decide (f i < b) || (decide (f i = b) && decide (i < K))) K = bF (fun i => decide (f i < b + 1)) K := bF_c K (fun i hi => by
        by_cases a1 : f i < b
        · have : f i < b + 1 := by omega
          simp [a1, this]
        · by_cases a2 : f i = b
          · simp [a2, hi]
          · have : ¬ f i < b + 1 := by omega
            simp [a1, a2, this])
      rw [hU] at q1 q2
      rcases Nat.eq_zero_or_pos (ldS p f K b) with z | z
      · have := q1 z
        exact Nat.le_trans this (Nat.add_le_add_right (Nat.mul_le_mul_right 1000 (Nat.le_succ b)) w)
      · have := q2 z
        omega
  have hfull : bF (fun i => decide (f i < B)) K = 2 ^ K - 1 := by
    have ka := k_all K (by omega)
    apply Nat.eq_of_testBit_eq
    intro x
    rw [bF_tb]
    by_cases hx : x < K
    · rw [ka.2.2 x hx]
      have := hf.1 x hx
      simp [hx, this]
    · have : (2 ^ K - 1).testBit x = false := Nat.testBit_lt_two_pow (Nat.lt_of_lt_of_le (show 2 ^ K - 1 < 2 ^ K by have := Nat.two_pow_pos K; omega) (Nat.pow_le_pow_right (by omega) (by omega)))
      simp [hx, this]
  rw [← hfull]
  exact ulast B (Nat.le_refl _)
/-- the table's last is the fewest -/
theorem dp_min {K w : Nat} {p φ : Nat → Nat} (hK : K ≤ 7) (hw : w ≤ 140) (hp : ∀ j, j < K → 1 ≤ p j ∧ p j ≤ w) (hI : dpI K w p φ (2 ^ K) 0) : (∃ f, fea K w p f (φ (2 ^ K - 1) / 1000)) ∧ (∀ f B, fea K w p f B → φ (2 ^ K - 1) / 1000 ≤ B) ∧ fea K w p (fun x => x) K := by
  have hp2 := Nat.two_pow_pos K
  have ka := k_all K (by omega)
  have hid : fea K w p (fun x => x) K := by
    refine ⟨fun i hi => hi, fun b hb => ?_⟩
    have : ldS p (fun x => x) K b = 0 + p b := by
      have e0 := sumF_0 K (fun _ => 0) (fun _ _ => rfl)
      have e1 := sumF_1 K (fun j => if j = b then p j else 0) (fun _ => 0) b (p b) hb (fun i _ hi => if_neg hi) (by
        show (if b = b then p b else 0) = 0 + p b
        rw [if_pos rfl, Nat.zero_add])
      rw [e0] at e1
      exact e1
    rw [this]
    have := hp b hb
    omega
  have h1 := dp_cmp hK hw hp hI hid
  obtain ⟨f, c, l, e, h2, h3, h4, h5, h6⟩ := hI.2.2.1 (2 ^ K - 1) (by omega) (by omega)
  refine ⟨⟨f, ?_⟩, fun f B hf => ?_, hid⟩
  · have hc : φ (2 ^ K - 1) / 1000 = c := by omega
    rw [hc]
    refine ⟨fun i hi => h3 i hi (ka.2.2 i hi), fun b hb => ?_⟩
    have : ldS p f K b = ldT K p f (2 ^ K - 1) b := sumF_c K _ _ (fun i hi => by
      rw [ka.2.2 i hi]
      simp)
    rw [this]
    exact h4 b hb
  · have := dp_cmp hK hw hp hI hf
    omega
