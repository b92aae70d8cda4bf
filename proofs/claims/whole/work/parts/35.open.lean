/-! the calls that read what is -/
theorem lit_lo {x : Int32} (h : x < 0) (j : Nat) (hj : j < 2 ^ 31) : ¬ x = nI j := fun e => nI_pos hj (e ▸ h)
theorem lit_hi {x : Int32} {n : Nat} (h : nI n ≤ x) (j : Nat) (hj : j < n) (hn : n < 2 ^ 31) : ¬ x = nI j := fun e => nI_ge hj hn (e ▸ h)
/-- what all reading calls stand on -/
def Cx (E : Nat) (S T : SS) : Prop := E ≤ 7 ∧ rMill E S T ∧ Lv E 18 S (T.1 67) ∧ wfL E (T.1 67)
theorem cx_of {E : Nat} {S T : SS} (hm : rMill E S T) (ha : rAct E S T) : Cx E S T := ⟨hm.2.2.1, hm, lv_of hm.2.2.1 hm.1.2.2 ha.1.1, ha.1.2.1⟩
theorem c_last_l {E k N : Nat} {S : SS} {m : Nat → Int32} (hE : E ≤ 7) (hv : Lv E k S m) : ∀ (t : List Nat) (n d i : Nat), chn (fun d => m (14 + d)) (fun d => m (21 + d)) (d :: t) → (∀ x, x ∈ d :: t → x < E) → i + t.length ≤ E → t.length < n → fX8_lastOf_l4 N k n (nI d) (nI i) S = some (nI ((d :: t).getLastD 0)) := by
  intro t
  induction t with
  | nil =>
    intro n d i h hx hi hn
    obtain ⟨n, rfl⟩ : ∃ q, n = q + 1 := ⟨n - 1, by omega⟩
    have hd : d < E := hx d (List.mem_cons_self ..)
    unfold fX8_lastOf_l4
    rw [hv.1]
    split
    · rfl
    · rw [ck_in (by omega) (by omega), ga_nI (by omega), (hv.2.1 d hd).2.2.1, if_pos (show m (14 + d) = -1 from h)]
      rfl
  | cons e t ih =>
    intro n d i h hx hi hn
    obtain ⟨n, rfl⟩ : ∃ q, n = q + 1 := ⟨n - 1, by omega⟩
    have hd : d < E := hx d (List.mem_cons_self ..)
    have hx' : ∀ x, x ∈ e :: t → x < E := fun x q => hx x (List.mem_cons_of_mem _ q)
    have he := hx' e (List.mem_cons_self ..)
    simp at hi hn
    unfold fX8_lastOf_l4
    rw [hv.1, if_neg (nI_ge (by omega) (by omega)), ck_in (by omega) (by omega), ga_nI (by omega), (hv.2.1 d hd).2.2.1, show m (14 + d) = nI e from h.1, if_neg (nI_m1 (by omega)), ck_in (by omega) (by omega), lt_s9, lt_s9, nI_1, ih n e (i + 1) h.2.2 hx' (by omega) (by omega)]
    rfl
theorem m_last_l {E N : Nat} {T : SS} (hE : E ≤ 7) : ∀ (t : List Nat) (n d : Nat), chn (fun d => T.1 67 (14 + d)) (fun d => T.1 67 (21 + d)) (d :: t) → (∀ x, x ∈ d :: t → x < E) → t.length < n → fX12_lastOf_l2 N n (nI d) T = some (nI ((d :: t).getLastD 0)) := by
  intro t
  induction t with
  | nil =>
    intro n d h hx hn
    obtain ⟨n, rfl⟩ : ∃ q, n = q + 1 := ⟨n - 1, by omega⟩
    have hd : d < E := hx d (List.mem_cons_self ..)
    unfold fX12_lastOf_l2
    rw [a14, ck_in (by omega) (by omega), ga_nI (by omega), if_pos (show T.1 67 (14 + d) = -1 from h)]
    rfl
  | cons e t ih =>
    intro n d h hx hn
    obtain ⟨n, rfl⟩ : ∃ q, n = q + 1 := ⟨n - 1, by omega⟩
    have hd : d < E := hx d (List.mem_cons_self ..)
    have hx' : ∀ x, x ∈ e :: t → x < E := fun x q => hx x (List.mem_cons_of_mem _ q)
    have he := hx' e (List.mem_cons_self ..)
    simp at hn
    unfold fX12_lastOf_l2
    rw [a14, ck_in (by omega) (by omega), ga_nI (by omega), show T.1 67 (14 + d) = nI e from h.1, if_neg (nI_m1 (by omega)), ck_in (by omega) (by omega), lt_s9, ih n e h.2.2 hx' (by omega)]
    rfl
theorem lasts {E N : Nat} {S T : SS} (hN : 9 ≤ N) (h : Cx E S T) {d : Nat} (hd : d < E) : ∃ r, fX8_lastOf N S 18 (nI d) = some r ∧ fX12_lastOf N T (nI d) = some r := by
  obtain ⟨hE, hm, hv, hw⟩ := h
  obtain ⟨h1, h2, h3, _⟩ := wf_tw hE hw hd
  obtain ⟨p, r, e⟩ := List.append_of_mem h2
  rw [e] at h1
  have hl := h1.len
  simp at hl
  have hc := chn_suf p (List.cons_ne_nil d r) h1.1
  have hx : ∀ x, x ∈ d :: r → x < E := fun x q => h1.2.2.2 x (List.mem_append_right _ q)
  exact ⟨_, c_last_l hE hv r N d 0 hc hx (by omega) (by omega), m_last_l hE r N d hc hx (by omega)⟩
theorem firsts {E N : Nat} {S T : SS} (hN : 9 ≤ N) (h : Cx E S T) {d : Nat} (hd : d < E) : fX8_firstOf N S 18 (nI d) = some (nI (hdF (T.1 67) d)) ∧ fX12_firstOf N T (nI d) = some (nI (hdF (T.1 67) d)) := ⟨c_first hN h.1 h.2.2.1 h.2.2.2 hd, m_first hN h.1 h.2.2.2 hd⟩
/-! sold, knotted, loose, open: a row's own -/
def sdF (m : Nat → Int32) (d : Nat) : Bool := bt (m 28) d
def knF (m : Nat → Int32) (d : Nat) : Bool := !(decide (m (14 + d) = -1) && decide (m (21 + d) = -1))
def loF (m : Nat → Int32) (d : Nat) : Bool := !(sdF m d) && !(knF m d)
def opF (m : Nat → Int32) (a b : Nat) : Bool := decide (a ≠ b) && !(sdF m a) && !(sdF m b) && decide (m (14 + a) = -1) && decide (m (21 + b) = -1) && decide (hdF m a ≠ b)
theorem sd_iff {E : Nat} {m : Nat → Int32} (hE : E ≤ 7) (hw : wfL E m) {d : Nat} (hd : d < E) : ((sr (m 28) (nI d)) &&& 1) = 1 ↔ sdF m d = true := by
  obtain ⟨v, h1, h2⟩ := hw.2.2.1
  have h3 : v < 128 := Nat.lt_of_lt_of_le h1 (Nat.le_trans (Nat.pow_le_pow_right (by omega) hE) (by decide))
  unfold sdF
  rw [h2, (k_sr v h3 d (by omega)).2]
  exact (k_sr v h3 d (by omega)).1
theorem c_sold {E k N : Nat} {S : SS} {m : Nat → Int32} (hE : E ≤ 7) (hv : Lv E k S m) (hw : wfL E m) {d : Nat} (hd : d < E) : fX8_isSold N S k (nI d) = some (i01 (sdF m d)) := by
  unfold fX8_isSold
  rw [hv.2.2.1]
  by_cases h : sdF m d = true
  · rw [if_pos ((sd_iff hE hw hd).mpr h), h]
    rfl
  · rw [if_neg (fun z => h ((sd_iff hE hw hd).mp z)), eq_false_of_ne_true h]
    rfl
theorem ga28 {T : SS} {k : Nat} : ga T k 28 = T.1 k 28 := rfl
theorem m_sold {E N : Nat} {T : SS} (hE : E ≤ 7) (hw : wfL E (T.1 67)) {d : Nat} (hd : d < E) : fX12_isSold N T (nI d) = some (i01 (sdF (T.1 67) d)) := by
  unfold fX12_isSold fX12_has
  rw [ga28]
  by_cases h : sdF (T.1 67) d = true
  · rw [if_pos ((sd_iff hE hw hd).mpr h), h]
    rfl
  · rw [if_neg (fun z => h ((sd_iff hE hw hd).mp z)), eq_false_of_ne_true h]
    rfl
theorem c_knot {E k N : Nat} {S : SS} {m : Nat → Int32} (hE : E ≤ 7) (hv : Lv E k S m) {d : Nat} (hd : d < E) : fX8_isKnotted N S k (nI d) = some (i01 (knF m d)) := by
  unfold fX8_isKnotted knF
  rw [ck_in (by omega) (by omega), ck_in (by omega) (by omega), ga_nI (by omega), ga_nI (by omega), (hv.2.1 d hd).2.2.1, (hv.2.1 d hd).2.2.2]
  by_cases h1 : m (14 + d) = -1 <;> by_cases h2 : m (21 + d) = -1 <;> simp [h1, h2, i01]
theorem m_knot {E N : Nat} {T : SS} (hE : E ≤ 7) {d : Nat} (hd : d < E) : fX12_isKnotted N T (nI d) = some (i01 (knF (T.1 67) d)) := by
  unfold fX12_isKnotted knF
  rw [a14, a21, ck_in (by omega) (by omega), ck_in (by omega) (by omega), ga_nI (by omega), ga_nI (by omega)]
  by_cases h1 : T.1 67 (14 + d) = -1 <;> by_cases h2 : T.1 67 (21 + d) = -1 <;> simp [h1, h2, i01]
theorem c_loose {E k N : Nat} {S : SS} {m : Nat → Int32} (hE : E ≤ 7) (hv : Lv E k S m) (hw : wfL E m) {d : Nat} (hd : d < E) : fX8_isLoose N S k (nI d) = some (i01 (loF m d)) := by
  unfold fX8_isLoose loF
  rw [bd_s (c_sold hE hv hw hd), bd_s (c_knot hE hv hd)]
  cases sdF m d <;> cases knF m d <;> rfl
theorem m_loose {E N : Nat} {T : SS} (hE : E ≤ 7) (hw : wfL E (T.1 67)) {d : Nat} (hd : d < E) : fX12_isLoose N T (nI d) = some (i01 (loF (T.1 67) d)) := by
  unfold fX12_isLoose loF
  rw [bd_s (m_sold hE hw hd), bd_s (m_knot hE hd)]
  cases sdF (T.1 67) d <;> cases knF (T.1 67) d <;> rfl
theorem nIe {a b : Nat} (ha : a < 2 ^ 31) (hb : b < 2 ^ 31) : (nI a = nI b) = (a = b) := propext (nI_eq ha hb)
theorem hd_lt {E : Nat} {m : Nat → Int32} (hE : E ≤ 7) (hw : wfL E m) {d : Nat} (hd : d < E) : hdF m d < E := by
  obtain ⟨r, h1, h2, h3, h4, h5⟩ := tw_cons hE hw hd
  exact h3 _ (List.mem_cons_self ..)
theorem c_open {E k N : Nat} {S : SS} {m : Nat → Int32} (hN : 9 ≤ N) (hE : E ≤ 7) (hv : Lv E k S m) (hw : wfL E m) {a b : Nat} (ha : a < E) (hb : b < E) : fX8_isOpen N S k (nI a) (nI b) = some (i01 (opF m a b)) := by
  have hh := hd_lt hE hw ha
  unfold fX8_isOpen opF
  rw [bd_s (c_sold hE hv hw ha), bd_s (c_sold hE hv hw hb), ck_in (by omega) (by omega), ck_in (by omega) (by omega), ga_nI (by omega), ga_nI (by omega), (hv.2.1 a ha).2.2.1, (hv.2.1 b hb).2.2.2, bd_s (c_first hN hE hv hw ha)]
  simp only [nIe (show a < 2 ^ 31 by omega) (show b < 2 ^ 31 by omega), nIe (show hdF m a < 2 ^ 31 by omega) (show b < 2 ^ 31 by omega)]
  by_cases h1 : a = b
  · simp [h1, i01]
  · cases sdF m a <;> cases sdF m b <;> by_cases h2 : m (14 + a) = -1 <;> by_cases h3 : m (21 + b) = -1 <;> by_cases h4 : hdF m a = b <;> simp [h1, h2, h3, h4, i01]
theorem hd_self {m : Nat → Int32} {b : Nat} (h : m (21 + b) = -1) : hdF m b = b := by
  unfold hdF wk
  rw [if_pos h]
  rfl
theorem m_open {E N : Nat} {T : SS} (hN : 9 ≤ N) (hE : E ≤ 7) (hw : wfL E (T.1 67)) {a b : Nat} (ha : a < E) (hb : b < E) : fX12_mayTry N T (nI a) (nI b) = some (i01 (opF (T.1 67) a b)) := by
  have hh := hd_lt hE hw ha
  have hh2 := hd_lt hE hw hb
  unfold fX12_mayTry opF
  rw [bd_s (m_sold hE hw ha), bd_s (m_sold hE hw hb), a14, a21, ck_in (by omega) (by omega), ck_in (by omega) (by omega), ga_nI (by omega), ga_nI (by omega), bd_s (m_first hN hE hw ha), bd_s (m_first hN hE hw hb)]
  simp only [nIe (show a < 2 ^ 31 by omega) (show b < 2 ^ 31 by omega), nIe (show hdF (T.1 67) a < 2 ^ 31 by omega) (show hdF (T.1 67) b < 2 ^ 31 by omega)]
  by_cases h1 : a = b
  · simp [h1, i01]
  · by_cases h3 : T.1 67 (21 + b) = -1
    · rw [hd_self h3]
      cases sdF (T.1 67) a <;> cases sdF (T.1 67) b <;> by_cases h2 : T.1 67 (14 + a) = -1 <;> by_cases h4 : hdF (T.1 67) a = b <;> simp [h1, h2, h3, h4, i01]
    · cases sdF (T.1 67) a <;> cases sdF (T.1 67) b <;> by_cases h2 : T.1 67 (14 + a) = -1 <;> simp [h1, h2, h3, i01]
