/-! bits of ends, sizes, lengths -/
def pc (v : Nat) : Nat := v % 2 + v / 2 % 2 + v / 4 % 2 + v / 8 % 2 + v / 16 % 2 + v / 32 % 2 + v / 64 % 2
theorem k_or : ∀ v, v < 128 → ∀ d, d < 7 → nI v ||| sl 1 (nI d) = nI (v ||| 2 ^ d) ∧ v ||| 2 ^ d < 128 := by decide +kernel
theorem k_bc : ∀ v, v < 128 → fJ6_bitCount_0f7a4 0 (nI v) = some (nI (pc v)) := by decide +kernel
theorem k_pc : ∀ v, v < 128 → ∀ d, d < 7 → v.testBit d = false → pc (v ||| 2 ^ d) = pc v + 1 := by decide +kernel
theorem k_sr : ∀ v, v < 128 → ∀ d, d < 7 → (((sr (nI v) (nI d)) &&& 1) = 1 ↔ v.testBit d = true) ∧ bt (nI v) d = v.testBit d := by decide +kernel
theorem bitc {N v : Nat} (h : v < 128) : fJ6_bitCount_0f7a4 N (nI v) = some (nI (pc v)) := k_bc v h
theorem tb_or (v d e : Nat) : (v ||| 2 ^ d).testBit e = (v.testBit e || decide (d = e)) := by
  rw [Nat.testBit_or, Nat.testBit_two_pow]
def bN (t : List Nat) (v : Nat) : Nat := t.foldl (fun v d => v ||| 2 ^ d) v
theorem bN_lt : ∀ (t : List Nat) (v : Nat), v < 128 → (∀ d, d ∈ t → d < 7) → bN t v < 128
  | [], _, h, _ => h
  | d :: t, v, h, hd => bN_lt t _ (k_or v h d (hd d (List.mem_cons_self ..))).2 (fun x hx => hd x (List.mem_cons_of_mem _ hx))
theorem bN_tb : ∀ (t : List Nat) (v e : Nat), (bN t v).testBit e = (v.testBit e || decide (e ∈ t))
  | [], v, e => by simp [bN]
  | d :: t, v, e => by
    have h := bN_tb t (v ||| 2 ^ d) e
    rw [tb_or] at h
    show (bN t (v ||| 2 ^ d)).testBit e = _
    rw [h]
    by_cases h1 : d = e
    · subst h1
      simp
    · have h2 : ¬ e = d := fun q => h1 q.symm
      simp [h1, h2]
theorem bN_pc : ∀ (t : List Nat) (v : Nat), v < 128 → (∀ d, d ∈ t → d < 7) → t.Nodup → (∀ d, d ∈ t → v.testBit d = false) → pc (bN t v) = pc v + t.length
  | [], _, _, _, _, _ => rfl
  | d :: t, v, h, hd, hn, hb => by
    have h7 := hd d (List.mem_cons_self ..)
    have h1 := k_pc v h d h7 (hb d (List.mem_cons_self ..))
    have hn' := List.nodup_cons.mp hn
    have h2 := bN_pc t (v ||| 2 ^ d) (k_or v h d h7).2 (fun x hx => hd x (List.mem_cons_of_mem _ hx)) hn'.2 (fun x hx => by
      rw [tb_or, hb x (List.mem_cons_of_mem _ hx)]
      have : ¬ d = x := fun q => hn'.1 (q ▸ hx)
      simp [this])
    show pc (bN t (v ||| 2 ^ d)) = _
    rw [h2, h1, List.length_cons]
    omega
theorem c_tale_l {E k N : Nat} {S : SS} {m : Nat → Int32} (hE : E ≤ 7) (hv : Lv E k S m) : ∀ (t : List Nat) (n d v i : Nat), chn (fun d => m (14 + d)) (fun d => m (21 + d)) (d :: t) → (∀ x, x ∈ d :: t → x < E) → v < 128 → i + t.length < E → t.length + 1 < n → fX8_taleOf_l11 N k n (nI v) (nI d) (nI i) S = some (nI (bN (d :: t) v)) := by
  intro t
  induction t with
  | nil =>
    intro n d v i h hx hv' hi hn
    obtain ⟨n, rfl⟩ : ∃ q, n = q + 2 := ⟨n - 2, by simp at hn; omega⟩
    have hd : d < E := hx d (List.mem_cons_self ..)
    simp at hi
    unfold fX8_taleOf_l11
    rw [hv.1, if_neg (nI_ge hi (by omega)), if_neg (nI_m1 (by omega)), lt_s9, ck_in (by omega) (by omega), lt_s9, lt_s9, ga_nI (by omega), (hv.2.1 d hd).2.2.1, show m (14 + d) = -1 from h, (k_or v hv' d (by omega)).1]
    unfold fX8_taleOf_l11
    rw [if_pos rfl]
    split <;> rfl
  | cons e t ih =>
    intro n d v i h hx hv' hi hn
    obtain ⟨n, rfl⟩ : ∃ q, n = q + 1 := ⟨n - 1, by omega⟩
    have hd : d < E := hx d (List.mem_cons_self ..)
    have hx' : ∀ x, x ∈ e :: t → x < E := fun x q => hx x (List.mem_cons_of_mem _ q)
    have he := hx' e (List.mem_cons_self ..)
    simp at hi hn
    unfold fX8_taleOf_l11
    rw [hv.1, if_neg (nI_ge (by omega) (by omega)), if_neg (nI_m1 (by omega)), lt_s9, ck_in (by omega) (by omega), lt_s9, lt_s9, ga_nI (by omega), (hv.2.1 d hd).2.2.1, show m (14 + d) = nI e from h.1, (k_or v hv' d (by omega)).1, nI_1, ih n e (v ||| 2 ^ d) (i + 1) h.2.2 hx' (k_or v hv' d (by omega)).2 (by omega) (by omega)]
    rfl
/-- the tale of d with its first one taken apart -/
theorem tw_cons {E : Nat} (hE : E ≤ 7) {m : Nat → Int32} (hw : wfL E m) {d : Nat} (hd : d < E) : ∃ r, tw m d = hdF m d :: r ∧ chn (fun d => m (14 + d)) (fun d => m (21 + d)) (hdF m d :: r) ∧ (∀ x, x ∈ hdF m d :: r → x < E) ∧ (hdF m d :: r).Nodup ∧ r.length < E := by
  obtain ⟨h1, h2, h3, _⟩ := wf_tw hE hw hd
  have hl := h1.len
  cases ht : tw m d with
  | nil => rw [ht] at h2; simp at h2
  | cons a r =>
    rw [ht] at h1 h3 hl
    simp at h3 hl
    subst h3
    exact ⟨r, rfl, h1.1, h1.2.2.2, h1.2.2.1, by omega⟩
theorem c_tale {E k N : Nat} {S : SS} {m : Nat → Int32} (hN : 9 ≤ N) (hE : E ≤ 7) (hv : Lv E k S m) (hw : wfL E m) {d : Nat} (hd : d < E) : fX8_taleOf N S k (nI d) = some (nI (bN (tw m d) 0)) := by
  obtain ⟨r, h1, h2, h3, h4, h5⟩ := tw_cons hE hw hd
  unfold fX8_taleOf
  rw [bd_s (c_first hN hE hv hw hd), h1]
  exact c_tale_l hE hv r N (hdF m d) 0 0 h2 h3 (by omega) (by omega) (by omega)
theorem tw_mem {E : Nat} (hE : E ≤ 7) {m : Nat → Int32} (hw : wfL E m) {d : Nat} (hd : d < E) : (∀ x, x ∈ tw m d → x < 7) ∧ (tw m d).Nodup ∧ (tw m d).length ≤ E ∧ 1 ≤ (tw m d).length := by
  obtain ⟨h1, h2, h3, _⟩ := wf_tw hE hw hd
  refine ⟨fun x hx => ?_, h1.2.2.1, h1.len, ?_⟩
  · have := h1.2.2.2 x hx
    omega
  · exact List.length_pos_of_mem h2
theorem tw_bits {E : Nat} (hE : E ≤ 7) {m : Nat → Int32} (hw : wfL E m) {d : Nat} (hd : d < E) : bN (tw m d) 0 < 128 ∧ pc (bN (tw m d) 0) = (tw m d).length := by
  obtain ⟨h1, h2, h3, _⟩ := tw_mem hE hw hd
  refine ⟨bN_lt _ _ (by omega) h1, ?_⟩
  rw [bN_pc _ _ (by omega) h1 h2 (fun x _ => Nat.zero_testBit x)]
  show 0 + _ = _
  omega
theorem c_size {E k N : Nat} {S : SS} {m : Nat → Int32} (hN : 9 ≤ N) (hE : E ≤ 7) (hv : Lv E k S m) (hw : wfL E m) {d : Nat} (hd : d < E) : fX8_sizeOf N S k (nI d) = some (nI (tw m d).length) := by
  obtain ⟨h1, h2⟩ := tw_bits hE hw hd
  unfold fX8_sizeOf
  rw [bd_s (c_tale hN hE hv hw hd), bd_s (bitc h1), h2]
theorem m_many_l {E N : Nat} {T : SS} (hE : E ≤ 7) : ∀ (t : List Nat) (n d v : Nat), chn (fun d => T.1 67 (14 + d)) (fun d => T.1 67 (21 + d)) (d :: t) → (∀ x, x ∈ d :: t → x < E) → t.length + 1 < n → fX12_manyOf_l8 N n (nI v) (nI d) T = some (nI (v + (t.length + 1))) := by
  intro t
  induction t with
  | nil =>
    intro n d v h hx hn
    obtain ⟨n, rfl⟩ : ∃ q, n = q + 2 := ⟨n - 2, by simp at hn; omega⟩
    have hd : d < E := hx d (List.mem_cons_self ..)
    unfold fX12_manyOf_l8
    rw [if_neg (nI_m1 (by omega)), lt_s9, a14, ck_in (by omega) (by omega), lt_s9, ga_nI (by omega), show T.1 67 (14 + d) = -1 from h]
    unfold fX12_manyOf_l8
    rw [if_pos rfl, nI_1]
    rfl
  | cons e t ih =>
    intro n d v h hx hn
    obtain ⟨n, rfl⟩ : ∃ q, n = q + 1 := ⟨n - 1, by omega⟩
    have hd : d < E := hx d (List.mem_cons_self ..)
    have hx' : ∀ x, x ∈ e :: t → x < E := fun x q => hx x (List.mem_cons_of_mem _ q)
    have he := hx' e (List.mem_cons_self ..)
    simp at hn
    unfold fX12_manyOf_l8
    rw [if_neg (nI_m1 (by omega)), lt_s9, a14, ck_in (by omega) (by omega), lt_s9, ga_nI (by omega), show T.1 67 (14 + d) = nI e from h.1, nI_1, ih n e (v + 1) h.2.2 hx' (by omega), List.length_cons]
    congr 2
    omega
theorem m_many {E N : Nat} {T : SS} (hN : 9 ≤ N) (hE : E ≤ 7) (hw : wfL E (T.1 67)) {d : Nat} (hd : d < E) : fX12_manyOf N T (nI d) = some (nI (tw (T.1 67) d).length) := by
  obtain ⟨r, h1, h2, h3, h4, h5⟩ := tw_cons hE hw hd
  unfold fX12_manyOf
  rw [bd_s (m_first hN hE hw hd), h1]
  have := m_many_l (N := N) hE r N _ 0 h2 h3 (by omega)
  rw [Nat.zero_add] at this
  exact this
/-! lengths -/
def lnF (m : Nat → Int32) (d : Nat) : Nat := (m (7 + d)).toNatClampNeg
theorem lnF_eq {E : Nat} {m : Nat → Int32} (hw : wfL E m) {d : Nat} (hd : d < E) : m (7 + d) = nI (lnF m d) ∧ 1 ≤ lnF m d ∧ lnF m d ≤ 20 := by
  obtain ⟨v, h1, h2, h3⟩ := (hw.1 d hd).2
  have : lnF m d = v := by
    unfold lnF
    rw [h3, nI_clamp (by omega)]
  rw [this]
  exact ⟨h3, h1, h2⟩
def clF (m : Nat → Int32) (d : Nat) : Nat := (m d).toNatClampNeg
theorem clF_eq {E : Nat} {m : Nat → Int32} (hw : wfL E m) {d : Nat} (hd : d < E) : m d = nI (clF m d) ∧ clF m d ≤ 20 := by
  obtain ⟨v, h1, h2⟩ := (hw.1 d hd).1
  have : clF m d = v := by
    unfold clF
    rw [h2, nI_clamp (by omega)]
  rw [this]
  exact ⟨h2, h1⟩
def sumF (f : Nat → Nat) : Nat → Nat
  | 0 => 0
  | n + 1 => sumF f n + f n
theorem sumF_s (f : Nat → Nat) (n : Nat) : sumF f (n + 1) = sumF f n + f n := rfl
theorem sumF_0 : ∀ (n : Nat) (f : Nat → Nat), (∀ i, i < n → f i = 0) → sumF f n = 0
  | 0, _, _ => rfl
  | n + 1, f, h => by
    unfold sumF
    rw [sumF_0 n f (fun i hi => h i (by omega)), h n (by omega)]
theorem sumF_c : ∀ (n : Nat) (f g : Nat → Nat), (∀ i, i < n → f i = g i) → sumF f n = sumF g n
  | 0, _, _, _ => rfl
  | n + 1, f, g, h => by
    unfold sumF
    rw [sumF_c n f g (fun i hi => h i (by omega)), h n (by omega)]
theorem sumF_1 : ∀ (n : Nat) (f g : Nat → Nat) (d c : Nat), d < n → (∀ i, i < n → i ≠ d → f i = g i) → f d = g d + c → sumF f n = sumF g n + c
  | 0, _, _, _, _, hd, _, _ => absurd hd (by omega)
  | n + 1, f, g, d, c, hd, h, h1 => by
    unfold sumF
    by_cases e : d = n
    · subst e
      rw [sumF_c d f g (fun i hi => h i (by omega) (by omega)), h1]
      omega
    · rw [sumF_1 n f g d c (by omega) (fun i hi => h i (by omega)) h1, h n (by omega) (by omega)]
      omega
theorem sumF_t {E : Nat} (g : Nat → Nat) : ∀ (t : List Nat), t.Nodup → (∀ x, x ∈ t → x < E) → sumF (fun e => if e ∈ t then g e else 0) E = (t.map g).sum
  | [], _, _ => sumF_0 _ _ (fun i _ => by simp)
  | d :: t, hn, hx => by
    have hn' := List.nodup_cons.mp hn
    rw [sumF_1 E _ (fun e => if e ∈ t then g e else 0) d (g d) (hx d (List.mem_cons_self ..)) (fun i _ hi => by simp [hi]) (by simp [hn'.1]), sumF_t g t hn'.2 (fun x q => hx x (List.mem_cons_of_mem _ q)), List.map_cons, List.sum_cons]
    omega
theorem c_len_l {E k N v : Nat} {S : SS} {m : Nat → Int32} (hE : E ≤ 7) (hv : Lv E k S m) (hw : wfL E m) (hb : v < 128) : ∀ (j i n : Nat), i + j = E → j < n → fX8_lengthOf_l4 N k n (nI v) (nI (sumF (fun e => if v.testBit e then lnF m e else 0) i)) (nI i) S = some (nI (sumF (fun e => if v.testBit e then lnF m e else 0) E)) := by
  intro j
  induction j with
  | zero =>
    intro i n hi hn
    obtain ⟨n, rfl⟩ : ∃ q, n = q + 1 := ⟨n - 1, by omega⟩
    unfold fX8_lengthOf_l4
    rw [hv.1, if_pos (nI_le (by omega) (by omega)), show i = E by omega]
  | succ j ih =>
    intro i n hi hn
    obtain ⟨n, rfl⟩ : ∃ q, n = q + 1 := ⟨n - 1, by omega⟩
    have h1 := ih (i + 1) n (by omega) (by omega)
    unfold fX8_lengthOf_l4
    rw [hv.1, if_neg (nI_ge (by omega) (by omega))]
    rw [sumF_s] at h1
    have hq := (k_sr v hb i (by omega)).1
    by_cases hc : v.testBit i = true
    · rw [if_pos (hq.mpr hc), ck_in (by omega) (by omega), lt_s9, lt_s9, ga_nI (by omega), (hv.2.1 i (by omega)).2.1, (lnF_eq hw (by omega)).1, nI_add, nI_1]
      simp only [hc, if_true] at h1
      exact h1
    · rw [if_neg (fun z => hc (hq.mp z)), lt_s9, nI_1]
      rw [if_neg hc, Nat.add_zero] at h1
      exact h1
theorem c_len {E k N v : Nat} {S : SS} {m : Nat → Int32} (hN : 9 ≤ N) (hE : E ≤ 7) (hv : Lv E k S m) (hw : wfL E m) (hb : v < 128) : fX8_lengthOf N S k (nI v) = some (nI (sumF (fun e => if v.testBit e then lnF m e else 0) E)) := by
  unfold fX8_lengthOf
  exact c_len_l hE hv hw hb E 0 N (by omega) (by omega)
/-- the length of a tale -/
def lgF (m : Nat → Int32) (d : Nat) : Nat := ((tw m d).map (lnF m)).sum
theorem c_lent {E k N : Nat} {S : SS} {m : Nat → Int32} (hN : 9 ≤ N) (hE : E ≤ 7) (hv : Lv E k S m) (hw : wfL E m) {d : Nat} (hd : d < E) : fX8_lengthOf N S k (nI (bN (tw m d) 0)) = some (nI (lgF m d)) := by
  obtain ⟨h1, h2, h3, _⟩ := wf_tw hE hw hd
  rw [c_len hN hE hv hw (tw_bits hE hw hd).1]
  unfold lgF
  rw [← sumF_t (E := E) (lnF m) _ h1.2.2.1 h1.2.2.2]
  congr 2
  apply sumF_c
  intro i _
  rw [bN_tb, Nat.zero_testBit]
  simp
theorem m_len_l {E N : Nat} {T : SS} (hE : E ≤ 7) (hw : wfL E (T.1 67)) : ∀ (t : List Nat) (n d v : Nat), chn (fun d => T.1 67 (14 + d)) (fun d => T.1 67 (21 + d)) (d :: t) → (∀ x, x ∈ d :: t → x < E) → t.length + 1 < n → fX12_lengthOf_l8 N n (nI v) (nI d) T = some (nI (v + ((d :: t).map (lnF (T.1 67))).sum)) := by
  intro t
  induction t with
  | nil =>
    intro n d v h hx hn
    obtain ⟨n, rfl⟩ : ∃ q, n = q + 2 := ⟨n - 2, by simp at hn; omega⟩
    have hd : d < E := hx d (List.mem_cons_self ..)
    unfold fX12_lengthOf_l8
    rw [if_neg (nI_m1 (by omega)), a7, ck_in (by omega) (by omega), lt_s9, a14, ck_in (by omega) (by omega), lt_s9, ga_nI (by omega), ga_nI (by omega), (lnF_eq hw hd).1, nI_add, show T.1 67 (14 + d) = -1 from h]
    unfold fX12_lengthOf_l8
    rw [if_pos rfl]
    simp
  | cons e t ih =>
    intro n d v h hx hn
    obtain ⟨n, rfl⟩ : ∃ q, n = q + 1 := ⟨n - 1, by omega⟩
    have hd : d < E := hx d (List.mem_cons_self ..)
    have hx' : ∀ x, x ∈ e :: t → x < E := fun x q => hx x (List.mem_cons_of_mem _ q)
    have he := hx' e (List.mem_cons_self ..)
    simp at hn
    unfold fX12_lengthOf_l8
    rw [if_neg (nI_m1 (by omega)), a7, ck_in (by omega) (by omega), lt_s9, a14, ck_in (by omega) (by omega), lt_s9, ga_nI (by omega), ga_nI (by omega), (lnF_eq hw hd).1, nI_add, show T.1 67 (14 + d) = nI e from h.1, ih n e (v + lnF (T.1 67) d) h.2.2 hx' (by omega)]
    simp only [List.map_cons, List.sum_cons]
    congr 2
    omega
theorem m_len {E N : Nat} {T : SS} (hN : 9 ≤ N) (hE : E ≤ 7) (hw : wfL E (T.1 67)) {d : Nat} (hd : d < E) : fX12_lengthOf N T (nI d) = some (nI (lgF (T.1 67) d)) := by
  obtain ⟨r, h1, h2, h3, h4, h5⟩ := tw_cons hE hw hd
  unfold fX12_lengthOf lgF
  rw [bd_s (m_first hN hE hw hd), h1]
  have := m_len_l (N := N) hE hw r N _ 0 h2 h3 (by omega)
  rw [Nat.zero_add] at this
  exact this
