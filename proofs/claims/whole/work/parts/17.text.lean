/- LooseEnds.takeLaw()I -/
def fX11_takeLaw (N : Nat) (S : SS) : Option (SS × Int32) := if (gi S 14 4) = 4 then
  (some (S, (-1)))
  else
  (b2 (fX3_read N S) fun S4 r3 =>
  if r3 = (-1) then
  (lt (pj S4 1 1 0) fun S6 =>
  b2 (fX2_add N S6 13 (gi S6 12 2)) fun S9 r8 =>
  some (S9, r8))
  else
  (some (S4, (-1))))
set_option maxHeartbeats 4000000 in
set_option maxRecDepth 100000 in
theorem kX11_takeLaw {l : Launch} {D : va_G} {dA : Nat → ClassId} {ad : Nat → Nat} {t1 t2 : Nat} {N : Nat} {S T : SS} {o : Nat → Int64} {r : Int32} {S' : SS} (hR : fX11_takeLaw N S = some (S', r)) : KE l D dA ad t1 t2 yX11_takeLaw cX11_takeLaw 1 { frames := 493, cells := 1, slots := 240, locals := 10875 } [.ref (ad 0)] S T o r S' T := by
  refine enE (plainFor_of_name (by decide)) (Nat.le_of_ble_eq_true rfl) ?_
  intro p ev s m args below meth c QQ hQ X hr hlk hE w ls hl
  have hx := X.1
  have hb := X.2.1
  have hag : ∀ k, ¬ (48 ≤ k ∧ k < 52) → ad k = ad k := fun _ _ => rfl
  have hl : lv_has ls 1 [(0, .ref (ad 0))] := hl
  unfold fX11_takeLaw at hR
  refine lv_aload_n hx hb dX11_takeLaw_0 rfl (lv_at hl 0 rfl) ?_
  refine gX11_judge X w lfX11_44 dX11_takeLaw_1 ?_
  refine gX2_size X w lfX11_146 dX11_takeLaw_4 ?_
  refine lv_iconst (v := 4) hx hb dX11_takeLaw_7 (by decide) ?_
  refine lv_icmp_eq (tgt := 22) hx hb dX11_takeLaw_8 (by decide) (fun c1 => ?_) (fun c1 => ?_)
  · rw [if_pos c1] at hR
    refine lv_iconst (v := -1) hx hb dX11_takeLaw_22 (by decide) ?_
    rw [hQ]
    exact rtE X hr hlk hag w ⟨Nat.le_of_ble_eq_true rfl, Nat.le_of_ble_eq_true rfl⟩ (lf2 hR).1 rfl (lf2 hR).2 dX11_takeLaw_23
  · rw [if_neg c1] at hR
    refine lv_aload_n hx hb dX11_takeLaw_11 rfl (lv_at hl 0 rfl) ?_
    refine gX11_lawReader X w lfX11_35 dX11_takeLaw_12 ?_
    obtain ⟨S4, r3, h2, hR⟩ := b2_e hR
    refine cVi (k := 12) (As := []) (rest := []) X hl.1 w okX3_read obX3 rfl lmX11_121 (kX3_read h2) ⟨Nat.le_of_ble_eq_true rfl, Nat.le_of_ble_eq_true rfl⟩ ⟨rfl, rfl⟩ ⟨Nat.zero_le _, Nat.zero_le _⟩ rfl rfl (Nat.le_of_ble_eq_true rfl) dX11_takeLaw_15 (fun H locs zr3 w => ?_)
    refine lv_iconst (v := -1) hx hb dX11_takeLaw_18 (by decide) ?_
    refine lv_icmp_eq (tgt := 24) hx hb dX11_takeLaw_19 (by decide) (fun c5 => ?_) (fun c5 => ?_)
    · rw [if_pos c5] at hR
      refine lv_aload_n hx hb dX11_takeLaw_24 rfl (lv_at hl 0 rfl) ?_
      refine gX11_tape X w lfX11_10 dX11_takeLaw_25 ?_
      refine lv_iconst (v := 0) hx hb dX11_takeLaw_28 (by decide) ?_
      obtain ⟨S6, eS6, hR⟩ := lt_e hR
      refine pX9_length X w lfX11_110 dX11_takeLaw_29 (fun H locs w => ?_)
      rw [← eS6] at w
      refine lv_aload_n hx hb dX11_takeLaw_32 rfl (lv_at hl 0 rfl) ?_
      refine gX11_judge X w lfX11_44 dX11_takeLaw_33 ?_
      refine lv_aload_n hx hb dX11_takeLaw_36 rfl (lv_at hl 0 rfl) ?_
      refine gX11_lawReader X w lfX11_35 dX11_takeLaw_37 ?_
      refine gX3_steps X w lfX11_147 dX11_takeLaw_40 ?_
      refine lv_aload_n hx hb dX11_takeLaw_43 rfl (lv_at hl 0 rfl) ?_
      refine gX11_lawReader X w lfX11_35 dX11_takeLaw_44 ?_
      refine gX3_size X w lfX11_150 dX11_takeLaw_47 ?_
      obtain ⟨S9, r8, h7, hR⟩ := b2_e hR
      refine cVE (k := 14) (As := [.ref (ad 13), .int (gi S6 12 2)]) (rest := []) X hl.1 w hE okX2_add obX2 rfl lmX11_151 (kX2_add ⟨rfl, (by decide)⟩ h7) ⟨Nat.le_of_ble_eq_true rfl, Nat.le_of_ble_eq_true rfl⟩ ⟨rfl, rfl⟩ ⟨Nat.le_of_ble_eq_true rfl, Nat.le_of_ble_eq_true rfl⟩ rfl rfl (Nat.le_of_ble_eq_true rfl) dX11_takeLaw_50 (fun ae dB H locs hag w => ?_)
      rw [hQ]
      exact rtE X hr hlk hag w ⟨Nat.le_of_ble_eq_true rfl, Nat.le_of_ble_eq_true rfl⟩ (lf2 hR).1 rfl (lf2 hR).2 dX11_takeLaw_53
    · rw [if_neg c5] at hR
      refine lv_iconst (v := -1) hx hb dX11_takeLaw_22 (by decide) ?_
      rw [hQ]
      exact rtE X hr hlk hag w ⟨Nat.le_of_ble_eq_true rfl, Nat.le_of_ble_eq_true rfl⟩ (lf2 hR).1 rfl (lf2 hR).2 dX11_takeLaw_23
/- LooseEnds.text(I)I -/
def fX11_text (N : Nat) (S : SS) (p1 : Int32) : Option (SS × Int32) := if p1 = 0 then
  (b2 (fX11_takeMill N S) fun S8 r7 =>
  some (S8, r7))
  else
  (if p1 = 1 then
  (b2 (fX11_takeLaw N S) fun S5 r4 =>
  some (S5, r4))
  else
  (some (S, (-1))))
set_option maxHeartbeats 4000000 in
set_option maxRecDepth 100000 in
theorem kX11_text {l : Launch} {D : va_G} {dA : Nat → ClassId} {ad : Nat → Nat} {t1 t2 : Nat} {N : Nat} {S T : SS} {o : Nat → Int64} {p1 : Int32} {r : Int32} {S' : SS} (hR : fX11_text N S p1 = some (S', r)) : KE l D dA ad t1 t2 yX11_text cX11_text 2 { frames := 494, cells := 1, slots := 240, locals := 10895 } [.ref (ad 0), .int p1] S T o r S' T := by
  refine enE (plainFor_of_name (by decide)) (Nat.le_of_ble_eq_true rfl) ?_
  intro p ev s m args below meth c QQ hQ X hr hlk hE w ls hl
  have hx := X.1
  have hb := X.2.1
  have hag : ∀ k, ¬ (48 ≤ k ∧ k < 52) → ad k = ad k := fun _ _ => rfl
  have hl : lv_has ls 2 [(0, .ref (ad 0)), (1, .int p1)] := hl
  unfold fX11_text at hR
  refine lv_iload_n hx hb dX11_text_0 rfl (lv_at hl 1 rfl) ?_
  refine lv_if_ne (tgt := 9) hx hb dX11_text_1 (by decide) (fun c1 => ?_) (fun c1 => ?_)
  · rw [if_neg c1] at hR
    refine lv_iload_n hx hb dX11_text_9 rfl (lv_at hl 1 rfl) ?_
    refine lv_iconst (v := 1) hx hb dX11_text_10 (by decide) ?_
    refine lv_icmp_ne (tgt := 19) hx hb dX11_text_11 (by decide) (fun c2 => ?_) (fun c2 => ?_)
    · rw [if_neg c2] at hR
      refine lv_iconst (v := -1) hx hb dX11_text_19 (by decide) ?_
      rw [hQ]
      exact rtE X hr hlk hag w ⟨Nat.le_of_ble_eq_true rfl, Nat.le_of_ble_eq_true rfl⟩ (lf2 hR).1 rfl (lf2 hR).2 dX11_text_20
    · rw [if_pos c2] at hR
      refine lv_aload_n hx hb dX11_text_14 rfl (lv_at hl 0 rfl) ?_
      obtain ⟨S5, r4, h3, hR⟩ := b2_e hR
      refine cVE (k := 0) (As := []) (rest := []) X hl.1 w hE okX11_takeLaw obX11 rfl lmX11_125 (kX11_takeLaw h3) ⟨Nat.le_of_ble_eq_true rfl, Nat.le_of_ble_eq_true rfl⟩ ⟨rfl, rfl⟩ ⟨Nat.le_of_ble_eq_true rfl, Nat.le_of_ble_eq_true rfl⟩ rfl rfl (Nat.le_of_ble_eq_true rfl) dX11_text_15 (fun ae dB H locs hag w => ?_)
      rw [hQ]
      exact rtE X hr hlk hag w ⟨Nat.le_of_ble_eq_true rfl, Nat.le_of_ble_eq_true rfl⟩ (lf2 hR).1 rfl (lf2 hR).2 dX11_text_18
  · rw [if_pos c1] at hR
    refine lv_aload_n hx hb dX11_text_4 rfl (lv_at hl 0 rfl) ?_
    obtain ⟨S8, r7, h6, hR⟩ := b2_e hR
    refine cVi (k := 0) (As := []) (rest := []) X hl.1 w okX11_takeMill obX11 rfl lmX11_122 (kX11_takeMill h6) ⟨Nat.le_of_ble_eq_true rfl, Nat.le_of_ble_eq_true rfl⟩ ⟨rfl, rfl⟩ ⟨Nat.zero_le _, Nat.zero_le _⟩ rfl rfl (Nat.le_of_ble_eq_true rfl) dX11_text_5 (fun H locs zr7 w => ?_)
    rw [hQ]
    exact rtE X hr hlk hag w ⟨Nat.le_of_ble_eq_true rfl, Nat.le_of_ble_eq_true rfl⟩ (lf2 hR).1 rfl (lf2 hR).2 dX11_text_8
