/-! rows and tales: what both sides read of them -/
theorem ck_in {α : Type} {d n : Nat} {x : Option α} (h : d < n) (hn : n < 2 ^ 31) : ck (inb (nI d) n) x = x := ck_t (inb_nI h hn)
theorem a0 (d : Nat) : (0 : Int32) + nI d = nI d := (nI_add 0 d).trans (by rw [Nat.zero_add])
theorem a7 (d : Nat) : (7 : Int32) + nI d = nI (7 + d) := nI_add 7 d
theorem a14 (d : Nat) : (14 : Int32) + nI d = nI (14 + d) := nI_add 14 d
theorem a21 (d : Nat) : (21 : Int32) + nI d = nI (21 + d) := nI_add 21 d
theorem nI_m1 {d : Nat} (h : d < 2 ^ 31) : ¬ nI d = -1 := by
  intro e
  have h1 := nI_toInt h
  rw [e] at h1
  have h2 : (-1 : Int32).toInt = -1 := by decide
  omega
theorem m1_nI {d : Nat} (h : d < 2 ^ 31) : ¬ (-1 : Int32) = nI d := fun e => nI_m1 h e.symm
def i01 (b : Bool) : Int32 := if b then 1 else 0
theorem i01_0 {b : Bool} : i01 b = 0 ↔ b = false := by cases b <;> decide
/-- a State of the class at k reads as the row m -/
def Lv (E k : Nat) (S : SS) (m : Nat → Int32) : Prop :=
  gi S k 4 = nI E ∧ (∀ d, d < E → S.1 (k + 1) d = m d ∧ S.1 (k + 2) d = m (7 + d) ∧ S.1 (k + 3) d = m (14 + d) ∧ S.1 (k + 4) d = m (21 + d)) ∧
  gi S k 5 = m 28 ∧ gi S k 6 = m 29 ∧ gi S k 7 = m 30 ∧ gi S k 8 = m 31 ∧ gi S k 9 = m 32
theorem lv_of {E : Nat} {S T : SS} (hE : E ≤ 7) (h4 : gi S 18 4 = nI E) (h : ∀ j, relv E j → nowC S j = T.1 67 j) : Lv E 18 S (T.1 67) := by
  have g : ∀ j, 28 ≤ j → j < 33 → gi S 18 (j - 23) = T.1 67 j := fun j h1 h2 => by
    have e := h j ⟨fun q => absurd q (by omega), h2⟩
    unfold nowC at e
    rw [if_neg (by omega), if_neg (by omega), if_neg (by omega), if_neg (by omega)] at e
    exact e
  refine ⟨h4, fun d hd => ⟨?_, ?_, ?_, ?_⟩, g 28 (by omega) (by omega), g 29 (by omega) (by omega), g 30 (by omega) (by omega), g 31 (by omega) (by omega), g 32 (by omega) (by omega)⟩
  · have e := h d ⟨fun _ => by omega, by omega⟩
    unfold nowC at e
    rw [if_pos (by omega)] at e
    exact e
  · have e := h (7 + d) ⟨fun _ => by omega, by omega⟩
    unfold nowC at e
    rw [if_neg (by omega), if_pos (by omega), show 7 + d - 7 = d by omega] at e
    exact e
  · have e := h (14 + d) ⟨fun _ => by omega, by omega⟩
    unfold nowC at e
    rw [if_neg (by omega), if_neg (by omega), if_pos (by omega), show 14 + d - 14 = d by omega] at e
    exact e
  · have e := h (21 + d) ⟨fun _ => by omega, by omega⟩
    unfold nowC at e
    rw [if_neg (by omega), if_neg (by omega), if_neg (by omega), if_pos (by omega), show 21 + d - 21 = d by omega] at e
    exact e
/-! chains -/
theorem chn_suf {bh ah : Nat → Int32} : ∀ (p : List Nat) {t : List Nat}, t ≠ [] → chn bh ah (p ++ t) → chn bh ah t
  | [], _, _, h => h
  | [a], t, ht, h => by
    cases t with
    | nil => exact absurd rfl ht
    | cons b r => exact h.2.2
  | a :: b :: p, t, ht, h => chn_suf (b :: p) ht h.2.2
theorem chn_link {bh ah : Nat → Int32} {p r : List Nat} {c d : Nat} (h : chn bh ah (p ++ c :: d :: r)) : bh c = nI d ∧ ah d = nI c := by
  have h1 := chn_suf p (List.cons_ne_nil c (d :: r)) h
  exact ⟨h1.1, h1.2.1⟩
theorem chn_last {bh ah : Nat → Int32} {p : List Nat} {d : Nat} (h : chn bh ah (p ++ [d])) : bh d = -1 := chn_suf p (List.cons_ne_nil d []) h
def Tl (E : Nat) (bh ah : Nat → Int32) (t : List Nat) : Prop := chn bh ah t ∧ (∀ d, t.head? = some d → ah d = -1) ∧ t.Nodup ∧ ∀ d, d ∈ t → d < E
theorem nd_len : ∀ (E : Nat) (t : List Nat), t.Nodup → (∀ d, d ∈ t → d < E) → t.length ≤ E
  | 0, t, _, h => by
    cases t with
    | nil => exact Nat.le_refl 0
    | cons a r => exact absurd (h a (List.mem_cons_self ..)) (by omega)
  | E + 1, t, hn, h => by
    have h1 := nd_len E (t.erase E) (hn.erase E) (fun d hd => by
      have h2 := (hn.mem_erase_iff).mp hd
      have h3 := h d h2.2
      have h4 := h2.1
      omega)
    by_cases hm : E ∈ t
    · rw [List.length_erase_of_mem hm] at h1
      omega
    · rw [List.erase_of_not_mem hm] at h1
      omega
theorem Tl.len {E : Nat} {bh ah : Nat → Int32} {t : List Nat} (h : Tl E bh ah t) : t.length ≤ E := nd_len E t h.2.2.1 h.2.2.2
theorem tls_tl {E : Nat} {bh ah : Nat → Int32} {L : List (List Nat)} (h : tls E bh ah L) {t : List Nat} (ht : t ∈ L) : Tl E bh ah t := by
  refine ⟨(h.2.2 t ht).1, (h.2.2 t ht).2, ?_, fun d hd => (h.2.1 d).mp (List.mem_flatten.mpr ⟨t, ht, hd⟩)⟩
  exact (List.pairwise_flatten.mp h.1).1 t ht
theorem tls_ex {E : Nat} {bh ah : Nat → Int32} {L : List (List Nat)} (h : tls E bh ah L) {d : Nat} (hd : d < E) : ∃ t, t ∈ L ∧ d ∈ t := by
  obtain ⟨t, h1, h2⟩ := List.mem_flatten.mp ((h.2.1 d).mpr hd)
  exact ⟨t, h1, h2⟩
/-- the walk along a row -/
def wk (f : Nat → Int32) : Nat → Nat → List Nat
  | 0, _ => []
  | n + 1, d => d :: (if f d = -1 then [] else wk f n (f d).toNatClampNeg)
def hdF (m : Nat → Int32) (d : Nat) : Nat := (wk (fun d => m (21 + d)) 8 d).getLastD 0
def tw (m : Nat → Int32) (d : Nat) : List Nat := wk (fun d => m (14 + d)) 8 (hdF m d)
theorem wk_bh {E : Nat} (hE : E ≤ 7) {bh ah : Nat → Int32} : ∀ (t : List Nat) (n : Nat) (d : Nat), chn bh ah (d :: t) → (∀ x, x ∈ t → x < E) → t.length < n → wk bh n d = d :: t
  | [], n + 1, d, h, _, _ => by
    unfold wk
    rw [if_pos (show bh d = -1 from h)]
  | e :: t, n + 1, d, h, hx, hn => by
    unfold wk
    have he : e < E := hx e (List.mem_cons_self ..)
    rw [h.1, if_neg (nI_m1 (by omega)), nI_clamp (by omega), wk_bh hE t n e h.2.2 (fun x q => hx x (List.mem_cons_of_mem _ q)) (by rw [List.length_cons] at hn; omega)]
  | _, 0, _, _, _, hn => absurd hn (by omega)
theorem wk_ah {E : Nat} (hE : E ≤ 7) {bh ah : Nat → Int32} : ∀ (n : Nat) (p r : List Nat) (d : Nat), chn bh ah (p ++ d :: r) → (∀ x, (p ++ d :: r).head? = some x → ah x = -1) → (∀ x, x ∈ p → x < E) → p.length < n → wk ah n d = d :: p.reverse := by
  intro n
  induction n with
  | zero => intro p r d _ _ _ hn; exact absurd hn (by omega)
  | succ n ih =>
    intro p r d h h0 hx hn
    rcases List.eq_nil_or_concat p with rfl | ⟨q, c, rfl⟩
    · unfold wk
      rw [if_pos (h0 d rfl)]
      rfl
    · have hc : c < E := hx c (by simp)
      have e : q.concat c ++ d :: r = q ++ c :: d :: r := by simp
      rw [e] at h h0
      unfold wk
      rw [(chn_link h).2, if_neg (nI_m1 (by omega)), nI_clamp (by omega), ih q (d :: r) c h h0 (fun x q' => hx x (by simp [q'])) (by simp at hn; omega)]
      simp
theorem hdF_eq {E : Nat} (hE : E ≤ 7) {m : Nat → Int32} {p r : List Nat} {d : Nat} (h : Tl E (fun d => m (14 + d)) (fun d => m (21 + d)) (p ++ d :: r)) : hdF m d = (p ++ [d]).headD 0 := by
  have hl := h.len
  unfold hdF
  rw [wk_ah hE 8 p r d h.1 h.2.1 (fun x q => h.2.2.2 x (by simp [q])) (by simp at hl; omega)]
  cases p with
  | nil => rfl
  | cons a q =>
    rw [show d :: (a :: q).reverse = (d :: q.reverse) ++ [a] by simp, List.getLastD_eq_getLast?, List.getLast?_concat]
    rfl
theorem tw_eq {E : Nat} (hE : E ≤ 7) {m : Nat → Int32} {t : List Nat} {d : Nat} (h : Tl E (fun d => m (14 + d)) (fun d => m (21 + d)) t) (hd : d ∈ t) : tw m d = t ∧ hdF m d = t.headD 0 := by
  have hl := h.len
  obtain ⟨p, r, rfl⟩ := List.append_of_mem hd
  have e := hdF_eq hE h
  have e2 : (p ++ [d]).headD 0 = (p ++ d :: r).headD 0 := by cases p <;> rfl
  refine ⟨?_, e.trans e2⟩
  unfold tw
  rw [e, e2]
  cases hp : p ++ d :: r with
  | nil => simp at hp
  | cons a q =>
    rw [hp] at h hl
    exact wk_bh hE q 8 a h.1 (fun x hx => h.2.2.2 x (List.mem_cons_of_mem _ hx)) (by simp at hl; omega)
/-- all of a well row's tale of d -/
theorem wf_tw {E : Nat} (hE : E ≤ 7) {m : Nat → Int32} (h : wfL E m) {d : Nat} (hd : d < E) : Tl E (fun d => m (14 + d)) (fun d => m (21 + d)) (tw m d) ∧ d ∈ tw m d ∧ hdF m d = (tw m d).headD 0 ∧ ∀ e, e ∈ tw m d → bt (m 28) d = bt (m 28) e := by
  obtain ⟨_, ⟨L, h1, h2⟩, _⟩ := h
  obtain ⟨t, ht, hdt⟩ := tls_ex h1 hd
  have h3 := tls_tl h1 ht
  obtain ⟨e1, e2⟩ := tw_eq hE h3 hdt
  rw [e1]
  exact ⟨h3, hdt, e2, fun e he => h2 t ht d e hdt he⟩
/-! the class's walks -/
theorem c_first_l {E k N : Nat} {S : SS} {m : Nat → Int32} (hE : E ≤ 7) (hv : Lv E k S m) : ∀ (n : Nat) (p r : List Nat) (d i : Nat), Tl E (fun d => m (14 + d)) (fun d => m (21 + d)) (p ++ d :: r) → i + p.length ≤ E → p.length < n → fX8_firstOf_l4 N k n (nI d) (nI i) S = some (nI ((p ++ [d]).headD 0)) := by
  intro n
  induction n with
  | zero => intro p r d i _ _ hn; exact absurd hn (by omega)
  | succ n ih =>
    intro p r d i h hi hn
    have hd : d < E := h.2.2.2 d (by simp)
    unfold fX8_firstOf_l4
    rw [hv.1]
    rcases List.eq_nil_or_concat p with rfl | ⟨q, c, rfl⟩
    · split
      · rfl
      · rw [ck_in (by omega) (by omega), ga_nI (by omega), (hv.2.1 d hd).2.2.2, show m (21 + d) = -1 from h.2.1 d rfl, if_pos rfl]
        rfl
    · have hc : c < E := h.2.2.2 c (by simp)
      have e : q.concat c ++ d :: r = q ++ c :: d :: r := by simp
      rw [e] at h
      simp at hi hn
      rw [if_neg (nI_ge (by omega) (by omega)), ck_in (by omega) (by omega), ga_nI (by omega), (hv.2.1 d hd).2.2.2, show m (21 + d) = nI c from (chn_link h.1).2, if_neg (nI_m1 (by omega)), ck_in (by omega) (by omega), lt_s9, lt_s9, nI_1, ih q (d :: r) c (i + 1) h (by omega) (by omega)]
      cases q <;> simp
theorem c_first {E k N : Nat} {S : SS} {m : Nat → Int32} (hN : 9 ≤ N) (hE : E ≤ 7) (hv : Lv E k S m) (hw : wfL E m) {d : Nat} (hd : d < E) : fX8_firstOf N S k (nI d) = some (nI (hdF m d)) := by
  obtain ⟨h1, h2, h3, _⟩ := wf_tw hE hw hd
  obtain ⟨p, r, e⟩ := List.append_of_mem h2
  rw [e] at h1
  have hl := h1.len
  simp at hl
  unfold fX8_firstOf
  have := c_first_l (N := N) hE hv N p r d 0 h1 (by omega) (by omega)
  rw [hdF_eq hE h1]
  exact this
theorem m_first_l {E N : Nat} {T : SS} (hE : E ≤ 7) : ∀ (n : Nat) (p r : List Nat) (d : Nat), Tl E (fun d => T.1 67 (14 + d)) (fun d => T.1 67 (21 + d)) (p ++ d :: r) → p.length < n → fX12_firstOf_l2 N n (nI d) T = some (nI ((p ++ [d]).headD 0)) := by
  intro n
  induction n with
  | zero => intro p r d _ hn; exact absurd hn (by omega)
  | succ n ih =>
    intro p r d h hn
    have hd : d < E := h.2.2.2 d (by simp)
    unfold fX12_firstOf_l2
    rw [a21, ck_in (by omega) (by omega), ga_nI (by omega)]
    rcases List.eq_nil_or_concat p with rfl | ⟨q, c, rfl⟩
    · rw [show T.1 67 (21 + d) = -1 from h.2.1 d rfl, if_pos rfl]
      rfl
    · have hc : c < E := h.2.2.2 c (by simp)
      have e : q.concat c ++ d :: r = q ++ c :: d :: r := by simp
      rw [e] at h
      simp at hn
      rw [show T.1 67 (21 + d) = nI c from (chn_link h.1).2, if_neg (nI_m1 (by omega)), ck_in (by omega) (by omega), lt_s9, ih q (d :: r) c h (by omega)]
      cases q <;> simp
theorem m_first {E N : Nat} {T : SS} (hN : 9 ≤ N) (hE : E ≤ 7) (hw : wfL E (T.1 67)) {d : Nat} (hd : d < E) : fX12_firstOf N T (nI d) = some (nI (hdF (T.1 67) d)) := by
  obtain ⟨h1, h2, h3, _⟩ := wf_tw hE hw hd
  obtain ⟨p, r, e⟩ := List.append_of_mem h2
  rw [e] at h1
  have hl := h1.len
  simp at hl
  unfold fX12_firstOf
  rw [hdF_eq hE h1]
  exact m_first_l (N := N) hE N p r d h1 (by omega)
