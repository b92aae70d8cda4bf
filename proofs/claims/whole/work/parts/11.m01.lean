/- LooseEnds$Tape.take(I)Z -/
def fX9_take (N : Nat) (S : SS) (p1 : Int32) : Option (SS × Int32) := b2 (fX9_sign N S) fun S3 r2 =>
  if r2 = p1 then
  (lt (pj S3 1 2 ((gi S3 1 2) + 1)) fun S5 =>
  some (S5, 1))
  else
  (some (S3, 0))
set_option maxHeartbeats 4000000 in
set_option maxRecDepth 100000 in
theorem kX9_take {l : Launch} {D : va_G} {dA : Nat → ClassId} {ad : Nat → Nat} {t1 t2 : Nat} {N : Nat} {S T : SS} {o : Nat → Int64} {p1 : Int32} {r : Int32} {S' : SS} (hR : fX9_take N S p1 = some (S', r)) : KI l D dA ad t1 t2 yX9_take cX9_take 2 .boolean { frames := 1, cells := 0, slots := 0, locals := 20 } [.ref (ad 1), .int p1] S T o r S' T := by
  intro sz
  refine en_ (plainFor_of_name (by decide)) (Nat.le_of_ble_eq_true rfl) ?_
  intro p ev s m args below meth c QQ hQ hsz X hr hlk w ls hl
  have hx := X.1
  have hb := X.2.1
  have hl : lv_has ls 2 [(0, .ref (ad 1)), (1, .int p1)] := hl
  unfold fX9_take at hR
  refine lv_aload_n hx hb dX9_take_0 rfl (lv_at hl 0 rfl) ?_
  obtain ⟨S3, r2, h1, hR⟩ := b2_e hR
  refine cVi (k := 1) (As := []) (rest := []) X hl.1 w okX9_sign obX9 rfl lmX9_22 (kX9_sign h1) ⟨Nat.le_of_ble_eq_true rfl, Nat.le_of_ble_eq_true rfl⟩ ⟨rfl, rfl⟩ ⟨Nat.zero_le _, Nat.zero_le _⟩ rfl rfl (Nat.le_of_ble_eq_true rfl) dX9_take_1 (fun H locs zr2 w => ?_)
  refine lv_iload_n hx hb dX9_take_4 rfl (lv_at hl 1 rfl) ?_
  refine lv_icmp_eq (tgt := 10) hx hb dX9_take_5 (by decide) (fun c4 => ?_) (fun c4 => ?_)
  · rw [if_pos c4] at hR
    refine lv_aload_n hx hb dX9_take_10 rfl (lv_at hl 0 rfl) ?_
    refine lv_dup hx hb dX9_take_11 rfl ?_
    refine gX9_at X w lfX9_19 dX9_take_12 ?_
    refine lv_iconst (v := 1) hx hb dX9_take_15 (by decide) ?_
    refine lv_iadd hx hb dX9_take_16 ?_
    obtain ⟨S5, eS5, hR⟩ := lt_e hR
    refine pX9_at X w lfX9_19 dX9_take_17 (fun H locs w => ?_)
    rw [← eS5] at w
    refine lv_iconst (v := 1) hx hb dX9_take_20 (by decide) ?_
    rw [hQ]
    exact rt_i X hr hlk w hsz rfl (lf2 hR).1 rfl (lf2 hR).2 dX9_take_21
  · rw [if_neg c4] at hR
    refine lv_iconst (v := 0) hx hb dX9_take_8 (by decide) ?_
    rw [hQ]
    exact rt_i X hr hlk w hsz rfl (lf2 hR).1 rfl (lf2 hR).2 dX9_take_9
/- LooseEnds$LawReader.write(I)V -/
def fX3_write (N : Nat) (S : SS) (p1 : Int32) : Option (SS) := if 240 ≤ (gi S 12 2) then
  (some S)
  else
  (ck (inb (gi S 12 2) 240) <|
  lt (pa S 13 (gi S 12 2) p1) fun S3 =>
  lt (pj S3 12 2 ((gi S3 12 2) + 1)) fun S4 =>
  some S4)
set_option maxHeartbeats 4000000 in
set_option maxRecDepth 100000 in
theorem kX3_write {l : Launch} {D : va_G} {dA : Nat → ClassId} {ad : Nat → Nat} {t1 t2 : Nat} {N : Nat} {S T : SS} {o : Nat → Int64} {p1 : Int32} {S' : SS} (hR : fX3_write N S p1 = some S') : KV l D dA ad t1 t2 yX3_write cX3_write 2 { frames := 0, cells := 0, slots := 0, locals := 0 } [.ref (ad 12), .int p1] S T o S' T := by
  intro sz
  refine en_ (plainFor_of_name (by decide)) (Nat.le_of_ble_eq_true rfl) ?_
  intro p ev s m args below meth c QQ hQ hsz X hr hlk w ls hl
  have hx := X.1
  have hb := X.2.1
  have hl : lv_has ls 2 [(0, .ref (ad 12)), (1, .int p1)] := hl
  unfold fX3_write at hR
  refine lv_aload_n hx hb dX3_write_0 rfl (lv_at hl 0 rfl) ?_
  refine gX3_size X w lfX3_19 dX3_write_1 ?_
  refine lv_aload_n hx hb dX3_write_4 rfl (lv_at hl 0 rfl) ?_
  refine gX3_steps X w lfX3_9 dX3_write_5 ?_
  refine lenS rfl (by decide) X w (v := 240) (by rw [show aln _ _ = 240 from rfl]; rfl) dX3_write_8 ?_
  refine lv_icmp_ge (tgt := 32) hx hb dX3_write_9 (by decide) (fun c1 => ?_) (fun c1 => ?_)
  · rw [if_pos c1] at hR
    rw [hQ]
    exact rt_v X hr hlk w hsz (lf1 hR) rfl dX3_write_32
  · rw [if_neg c1] at hR
    refine lv_aload_n hx hb dX3_write_12 rfl (lv_at hl 0 rfl) ?_
    refine gX3_steps X w lfX3_9 dX3_write_13 ?_
    refine lv_aload_n hx hb dX3_write_16 rfl (lv_at hl 0 rfl) ?_
    refine gX3_size X w lfX3_19 dX3_write_17 ?_
    refine lv_iload_n hx hb dX3_write_20 rfl (lv_at hl 1 rfl) ?_
    obtain ⟨g2, hR⟩ := ck_e hR
    obtain ⟨S3, eS3, hR⟩ := lt_e hR
    refine iasS (n := 240) rfl (by decide) X w rfl g2 dX3_write_21 (fun H locs w => ?_)
    rw [← eS3] at w
    refine lv_aload_n hx hb dX3_write_22 rfl (lv_at hl 0 rfl) ?_
    refine lv_dup hx hb dX3_write_23 rfl ?_
    refine gX3_size X w lfX3_19 dX3_write_24 ?_
    refine lv_iconst (v := 1) hx hb dX3_write_27 (by decide) ?_
    refine lv_iadd hx hb dX3_write_28 ?_
    obtain ⟨S4, eS4, hR⟩ := lt_e hR
    refine pX3_size X w lfX3_19 dX3_write_29 (fun H locs w => ?_)
    rw [← eS4] at w
    rw [hQ]
    exact rt_v X hr hlk w hsz (lf1 hR) rfl dX3_write_32
/- LooseEnds$Tape.isDigit(I)Z -/
def fX9_isDigit (N : Nat) (p0 : Int32) : Option (Int32) := if p0 < 48 then
  (some 0)
  else
  (if 57 < p0 then
  (some 0)
  else
  (some 1))
set_option maxHeartbeats 4000000 in
set_option maxRecDepth 100000 in
theorem kX9_isDigit {l : Launch} {D : va_G} {dA : Nat → ClassId} {ad : Nat → Nat} {t1 t2 : Nat} {N : Nat} {S T : SS} {o : Nat → Int64} {p0 : Int32} {r : Int32} (hR : fX9_isDigit N p0 = some r) : KI l D dA ad t1 t2 yX9_isDigit cX9_isDigit 1 .boolean { frames := 0, cells := 0, slots := 0, locals := 0 } [.int p0] S T o r S T := by
  intro sz
  refine en_ (plainFor_of_name (by decide)) (Nat.le_of_ble_eq_true rfl) ?_
  intro p ev s m args below meth c QQ hQ hsz X hr hlk w ls hl
  have hx := X.1
  have hb := X.2.1
  have hl : lv_has ls 1 [(0, .int p0)] := hl
  unfold fX9_isDigit at hR
  refine lv_iload_n hx hb dX9_isDigit_0 rfl (lv_at hl 0 rfl) ?_
  refine lv_bipush (v := 48) hx hb dX9_isDigit_1 (by decide) ?_
  refine lv_icmp_lt (tgt := 16) hx hb dX9_isDigit_3 (by decide) (fun c1 => ?_) (fun c1 => ?_)
  · rw [if_pos c1] at hR
    refine lv_iconst (v := 0) hx hb dX9_isDigit_16 (by decide) ?_
    rw [hQ]
    exact rt_i X hr hlk w hsz rfl rfl rfl (lf1 hR) dX9_isDigit_17
  · rw [if_neg c1] at hR
    refine lv_iload_n hx hb dX9_isDigit_6 rfl (lv_at hl 0 rfl) ?_
    refine lv_bipush (v := 57) hx hb dX9_isDigit_7 (by decide) ?_
    refine lv_icmp_gt (tgt := 16) hx hb dX9_isDigit_9 (by decide) (fun c2 => ?_) (fun c2 => ?_)
    · rw [if_pos c2] at hR
      refine lv_iconst (v := 0) hx hb dX9_isDigit_16 (by decide) ?_
      rw [hQ]
      exact rt_i X hr hlk w hsz rfl rfl rfl (lf1 hR) dX9_isDigit_17
    · rw [if_neg c2] at hR
      refine lv_iconst (v := 1) hx hb dX9_isDigit_12 (by decide) ?_
      refine lv_goto (tgt := 17) hx hb dX9_isDigit_13 (by decide) ?_
      rw [hQ]
      exact rt_i X hr hlk w hsz rfl rfl rfl (lf1 hR) dX9_isDigit_17
/- LooseEnds$Tape.number(I)I -/
def fX9_number_j76 (N : Nat) (x2 : Int32) (x3 : Int32) (S : SS) : Option (SS × Int32) := if x3 = 0 then
  (some (S, (-1)))
  else
  (some (S, x2))
def fX9_number_l9 (N : Nat) : Nat → Int32 → Int32 → Int32 → SS → Option (SS × Int32)
  | 0, _, _, _, _ => none
  | n + 1, x1, x2, x3, S => if (gi S 1 1) ≤ (gi S 1 2) then
  (fX9_number_j76 N x2 x3 S)
  else
  (ck (inb (gi S 1 2) 240) <|
  bd (fX9_isDigit N (ga S 2 (gi S 1 2))) fun r4 =>
  if r4 = 0 then
  (fX9_number_j76 N x2 x3 S)
  else
  (if x3 = x1 then
  (some (S, (-1)))
  else
  (ck (inb (gi S 1 2) 240) <|
  lt (((x2 * 10) + (ga S 2 (gi S 1 2))) - 48) fun v8 =>
  lt (x3 + 1) fun v9 =>
  lt (pj S 1 2 ((gi S 1 2) + 1)) fun S10 =>
  fX9_number_l9 N n x1 v8 v9 S10)))
def fX9_number (N : Nat) (S : SS) (p1 : Int32) : Option (SS × Int32) := b2 (fX9_sign N S) fun S3 r2 =>
  fX9_number_l9 N N p1 0 0 S3
set_option maxHeartbeats 4000000 in
set_option maxRecDepth 100000 in
theorem kX9_number {l : Launch} {D : va_G} {dA : Nat → ClassId} {ad : Nat → Nat} {t1 t2 : Nat} {N : Nat} {S T : SS} {o : Nat → Int64} {p1 : Int32} {r : Int32} {S' : SS} (hR : fX9_number N S p1 = some (S', r)) : KI l D dA ad t1 t2 yX9_number cX9_number 4 .int { frames := 1, cells := 0, slots := 0, locals := 20 } [.ref (ad 1), .int p1] S T o r S' T := by
  intro sz
  refine en_ (plainFor_of_name (by decide)) (Nat.le_of_ble_eq_true rfl) ?_
  intro p ev s m args below meth c QQ hQ hsz X hr hlk w ls hl
  have hx := X.1
  have hb := X.2.1
  have J76 : ∀ (x2 : Int32) (x3 : Int32) (S : SS), fX9_number_j76 N x2 x3 S = some (S', r) → WAT p l ev ({ frames := 1, cells := 0, slots := 0, locals := 20 } : Room) s m args below meth c QQ 4 D dA ad t1 t2 S T o 76 [(2, .int x2), (3, .int x3)] [] := by
    intro x2 x3 S hR H locs ls w hl
    unfold fX9_number_j76 at hR
    refine lv_iload_n hx hb dX9_number_76 rfl (lv_at hl 1 rfl) ?_
    refine lv_if_ne (tgt := 84) hx hb dX9_number_77 (by decide) (fun c1 => ?_) (fun c1 => ?_)
    · rw [if_neg c1] at hR
      refine lv_iload_n hx hb dX9_number_84 rfl (lv_at hl 0 rfl) ?_
      rw [hQ]
      exact rt_i X hr hlk w hsz rfl (lf2 hR).1 rfl (lf2 hR).2 dX9_number_85
    · rw [if_pos c1] at hR
      refine lv_iconst (v := -1) hx hb dX9_number_80 (by decide) ?_
      refine lv_goto (tgt := 85) hx hb dX9_number_81 (by decide) ?_
      rw [hQ]
      exact rt_i X hr hlk w hsz rfl (lf2 hR).1 rfl (lf2 hR).2 dX9_number_85
  have L9 : ∀ (n : Nat), ∀ (x1 : Int32) (x2 : Int32) (x3 : Int32) (S : SS), fX9_number_l9 N n x1 x2 x3 S = some (S', r) → WAT p l ev ({ frames := 1, cells := 0, slots := 0, locals := 20 } : Room) s m args below meth c QQ 4 D dA ad t1 t2 S T o 9 [(0, .ref (ad 1)), (1, .int x1), (2, .int x2), (3, .int x3)] [] := by
    intro n
    induction n with
    | zero =>
      intro x1 x2 x3 S hR
      exact nomatch hR
    | succ n ih =>
      intro x1 x2 x3 S hR H locs ls w hl
      rw [fX9_number_l9] at hR
      refine lv_aload_n hx hb dX9_number_9 rfl (lv_at hl 0 rfl) ?_
      refine gX9_at X w lfX9_19 dX9_number_10 ?_
      refine lv_aload_n hx hb dX9_number_13 rfl (lv_at hl 0 rfl) ?_
      refine gX9_length X w lfX9_15 dX9_number_14 ?_
      refine lv_icmp_ge (tgt := 76) hx hb dX9_number_17 (by decide) (fun c1 => ?_) (fun c1 => ?_)
      · rw [if_pos c1] at hR
        exact J76 x2 x3 S hR _ _ _ w (lv_sub hl [2, 3] rfl)
      · rw [if_neg c1] at hR
        refine lv_aload_n hx hb dX9_number_20 rfl (lv_at hl 0 rfl) ?_
        refine gX9_bytes X w lfX9_9 dX9_number_21 ?_
        refine lv_aload_n hx hb dX9_number_24 rfl (lv_at hl 0 rfl) ?_
        refine gX9_at X w lfX9_19 dX9_number_25 ?_
        obtain ⟨g2, hR⟩ := ck_e hR
        refine ialS (n := 240) rfl (by decide) X w rfl g2 dX9_number_28 ?_
        obtain ⟨r4, h3, hR⟩ := bd_e hR
        refine cSi (As := [.int (ga S 2 (gi S 1 2))]) (rest := []) X hl.1 w okX9_isDigit lmX9_26 (kX9_isDigit h3) ⟨Nat.le_of_ble_eq_true rfl, Nat.le_of_ble_eq_true rfl⟩ ⟨rfl, rfl⟩ ⟨Nat.zero_le _, Nat.zero_le _⟩ rfl rfl (Nat.le_of_ble_eq_true rfl) dX9_number_29 (fun H locs zr4 w => ?_)
        refine lv_if_eq (tgt := 76) hx hb dX9_number_32 (by decide) (fun c5 => ?_) (fun c5 => ?_)
        · rw [if_pos c5] at hR
          exact J76 x2 x3 S hR _ _ _ w (lv_sub hl [2, 3] rfl)
        · rw [if_neg c5] at hR
          refine lv_iload_n hx hb dX9_number_35 rfl (lv_at hl 3 rfl) ?_
          refine lv_iload_n hx hb dX9_number_36 rfl (lv_at hl 1 rfl) ?_
          refine lv_icmp_ne (tgt := 42) hx hb dX9_number_37 (by decide) (fun c6 => ?_) (fun c6 => ?_)
          · rw [if_neg c6] at hR
            refine lv_iload_n hx hb dX9_number_42 rfl (lv_at hl 2 rfl) ?_
            refine lv_bipush (v := 10) hx hb dX9_number_43 (by decide) ?_
            refine lv_imul hx hb dX9_number_45 ?_
            refine lv_aload_n hx hb dX9_number_46 rfl (lv_at hl 0 rfl) ?_
            refine gX9_bytes X w lfX9_9 dX9_number_47 ?_
            refine lv_aload_n hx hb dX9_number_50 rfl (lv_at hl 0 rfl) ?_
            refine gX9_at X w lfX9_19 dX9_number_51 ?_
            obtain ⟨g7, hR⟩ := ck_e hR
            refine ialS (n := 240) rfl (by decide) X w rfl g7 dX9_number_54 ?_
            refine lv_iadd hx hb dX9_number_55 ?_
            refine lv_bipush (v := 48) hx hb dX9_number_56 (by decide) ?_
            refine lv_isub hx hb dX9_number_58 ?_
            obtain ⟨v8, ev8, hR⟩ := lt_e hR
            refine nm_i ev8 ?_
            refine lv_istore_n (lv' := [(2, .int v8), (0, .ref (ad 1)), (1, .int x1), (3, .int x3)]) hx hb dX9_number_59 rfl hl (by decide) rfl (fun ls hl => ?_)
            obtain ⟨v9, ev9, hR⟩ := lt_e hR
            refine lv_iinc (v := v9) (lv' := [(3, .int v9), (2, .int v8), (0, .ref (ad 1)), (1, .int x1)]) hx hb dX9_number_60 hl (k := 3) rfl (by rw [ev9]; rfl) (by decide) rfl (fun ls hl => ?_)
            refine lv_aload_n hx hb dX9_number_63 rfl (lv_at hl 2 rfl) ?_
            refine lv_dup hx hb dX9_number_64 rfl ?_
            refine gX9_at X w lfX9_19 dX9_number_65 ?_
            refine lv_iconst (v := 1) hx hb dX9_number_68 (by decide) ?_
            refine lv_iadd hx hb dX9_number_69 ?_
            obtain ⟨S10, eS10, hR⟩ := lt_e hR
            refine pX9_at X w lfX9_19 dX9_number_70 (fun H locs w => ?_)
            rw [← eS10] at w
            refine lv_goto (tgt := 9) hx hb dX9_number_73 (by decide) ?_
            exact ih x1 v8 v9 S10 hR _ _ _ w (lv_sub hl [2, 3, 1, 0] rfl)
          · rw [if_pos c6] at hR
            refine lv_iconst (v := -1) hx hb dX9_number_40 (by decide) ?_
            rw [hQ]
            exact rt_i X hr hlk w hsz rfl (lf2 hR).1 rfl (lf2 hR).2 dX9_number_41
  have hl : lv_has ls 4 [(0, .ref (ad 1)), (1, .int p1)] := hl
  unfold fX9_number at hR
  refine lv_iconst (v := 0) hx hb dX9_number_0 (by decide) ?_
  refine lv_istore_n (lv' := [(2, .int 0), (0, .ref (ad 1)), (1, .int p1)]) hx hb dX9_number_1 rfl hl (by decide) rfl (fun ls hl => ?_)
  refine lv_iconst (v := 0) hx hb dX9_number_2 (by decide) ?_
  refine lv_istore_n (lv' := [(3, .int 0), (2, .int 0), (0, .ref (ad 1)), (1, .int p1)]) hx hb dX9_number_3 rfl hl (by decide) rfl (fun ls hl => ?_)
  refine lv_aload_n hx hb dX9_number_4 rfl (lv_at hl 2 rfl) ?_
  obtain ⟨S3, r2, h1, hR⟩ := b2_e hR
  refine cVi (k := 1) (As := []) (rest := []) X hl.1 w okX9_sign obX9 rfl lmX9_22 (kX9_sign h1) ⟨Nat.le_of_ble_eq_true rfl, Nat.le_of_ble_eq_true rfl⟩ ⟨rfl, rfl⟩ ⟨Nat.zero_le _, Nat.zero_le _⟩ rfl rfl (Nat.le_of_ble_eq_true rfl) dX9_number_5 (fun H locs zr2 w => ?_)
  refine lv_pop hx hb dX9_number_8 rfl ?_
  exact L9 N p1 0 0 S3 hR _ _ _ w (lv_sub hl [2, 3, 1, 0] rfl)
/- LooseEnds$LawReader.readNumber()Z -/
def fX3_readNumber (N : Nat) (S : SS) : Option (SS × Int32) := b2 (fX9_number N S 4) fun S3 r2 =>
  if r2 = (-1) then
  (some (S3, 0))
  else
  (bd (fX3_write N S3 r2) fun S6 =>
  some (S6, 1))
set_option maxHeartbeats 4000000 in
set_option maxRecDepth 100000 in
theorem kX3_readNumber {l : Launch} {D : va_G} {dA : Nat → ClassId} {ad : Nat → Nat} {t1 t2 : Nat} {N : Nat} {S T : SS} {o : Nat → Int64} {r : Int32} {S' : SS} (hR : fX3_readNumber N S = some (S', r)) : KI l D dA ad t1 t2 yX3_readNumber cX3_readNumber 2 .boolean { frames := 2, cells := 0, slots := 0, locals := 43 } [.ref (ad 12)] S T o r S' T := by
  intro sz
  refine en_ (plainFor_of_name (by decide)) (Nat.le_of_ble_eq_true rfl) ?_
  intro p ev s m args below meth c QQ hQ hsz X hr hlk w ls hl
  have hx := X.1
  have hb := X.2.1
  have hl : lv_has ls 2 [(0, .ref (ad 12))] := hl
  unfold fX3_readNumber at hR
  refine lv_aload_n hx hb dX3_readNumber_0 rfl (lv_at hl 0 rfl) ?_
  refine gX3_tape X w lfX3_15 dX3_readNumber_1 ?_
  refine lv_iconst (v := 4) hx hb dX3_readNumber_4 (by decide) ?_
  obtain ⟨S3, r2, h1, hR⟩ := b2_e hR
  refine cVi (k := 1) (As := [.int 4]) (rest := []) X hl.1 w okX9_number obX9 rfl lmX3_85 (kX9_number h1) ⟨Nat.le_of_ble_eq_true rfl, Nat.le_of_ble_eq_true rfl⟩ ⟨rfl, rfl⟩ ⟨Nat.zero_le _, Nat.zero_le _⟩ rfl rfl (Nat.le_of_ble_eq_true rfl) dX3_readNumber_5 (fun H locs zr2 w => ?_)
  refine lv_istore_n (lv' := [(1, .int r2), (0, .ref (ad 12))]) hx hb dX3_readNumber_8 rfl hl (by decide) rfl (fun ls hl => ?_)
  refine lv_iload_n hx hb dX3_readNumber_9 rfl (lv_at hl 0 rfl) ?_
  refine lv_iconst (v := -1) hx hb dX3_readNumber_10 (by decide) ?_
  refine lv_icmp_ne (tgt := 16) hx hb dX3_readNumber_11 (by decide) (fun c4 => ?_) (fun c4 => ?_)
  · rw [if_neg c4] at hR
    refine lv_aload_n hx hb dX3_readNumber_16 rfl (lv_at hl 1 rfl) ?_
    refine lv_iload_n hx hb dX3_readNumber_17 rfl (lv_at hl 0 rfl) ?_
    obtain ⟨S6, h5, hR⟩ := bd_e hR
    refine cVv (k := 12) (As := [.int r2]) (rest := []) X hl.1 w okX3_write obX3 rfl lmX3_52 (kX3_write h5) ⟨Nat.le_of_ble_eq_true rfl, Nat.le_of_ble_eq_true rfl⟩ ⟨rfl, rfl⟩ ⟨Nat.zero_le _, Nat.zero_le _⟩ rfl rfl (Nat.le_of_ble_eq_true rfl) dX3_readNumber_18 (fun H locs w => ?_)
    refine lv_iconst (v := 1) hx hb dX3_readNumber_21 (by decide) ?_
    rw [hQ]
    exact rt_i X hr hlk w hsz rfl (lf2 hR).1 rfl (lf2 hR).2 dX3_readNumber_22
  · rw [if_pos c4] at hR
    refine lv_iconst (v := 0) hx hb dX3_readNumber_14 (by decide) ?_
    rw [hQ]
    exact rt_i X hr hlk w hsz rfl (lf2 hR).1 rfl (lf2 hR).2 dX3_readNumber_15
/- LooseEnds$LawReader.letterOf(I)I -/
def fX3_letterOf (N : Nat) (p0 : Int32) : Option (Int32) := if p0 = 99 then
  (some 0)
  else
  (if p0 = 101 then
  (some 3)
  else
  (if p0 = 108 then
  (some 2)
  else
  (if p0 = 110 then
  (some 4)
  else
  (if p0 = 112 then
  (some 1)
  else
  (if p0 = 116 then
  (some 5)
  else
  (some (-1)))))))
set_option maxHeartbeats 4000000 in
set_option maxRecDepth 100000 in
theorem kX3_letterOf {l : Launch} {D : va_G} {dA : Nat → ClassId} {ad : Nat → Nat} {t1 t2 : Nat} {N : Nat} {S T : SS} {o : Nat → Int64} {p0 : Int32} {r : Int32} (hR : fX3_letterOf N p0 = some r) : KI l D dA ad t1 t2 yX3_letterOf cX3_letterOf 1 .int { frames := 0, cells := 0, slots := 0, locals := 0 } [.int p0] S T o r S T := by
  intro sz
  refine en_ (plainFor_of_name (by decide)) (Nat.le_of_ble_eq_true rfl) ?_
  intro p ev s m args below meth c QQ hQ hsz X hr hlk w ls hl
  have hx := X.1
  have hb := X.2.1
  have hl : lv_has ls 1 [(0, .int p0)] := hl
  unfold fX3_letterOf at hR
  refine lv_iload_n hx hb dX3_letterOf_0 rfl (lv_at hl 0 rfl) ?_
  by_cases c1_0 : p0 = 99
  · rw [if_pos c1_0] at hR
    refine lv_tableIn (tgt := 88) hx hb dX3_letterOf_1 (by rw [c1_0]; decide) (by rw [c1_0]; decide) (by rw [c1_0]; rfl) (by decide) ?_
    refine lv_iconst (v := 0) hx hb dX3_letterOf_88 (by decide) ?_
    rw [hQ]
    exact rt_i X hr hlk w hsz rfl rfl rfl (lf1 hR) dX3_letterOf_89
  · rw [if_neg c1_0] at hR
    by_cases c1_1 : p0 = 101
    · rw [if_pos c1_1] at hR
      refine lv_tableIn (tgt := 94) hx hb dX3_letterOf_1 (by rw [c1_1]; decide) (by rw [c1_1]; decide) (by rw [c1_1]; rfl) (by decide) ?_
      refine lv_iconst (v := 3) hx hb dX3_letterOf_94 (by decide) ?_
      rw [hQ]
      exact rt_i X hr hlk w hsz rfl rfl rfl (lf1 hR) dX3_letterOf_95
    · rw [if_neg c1_1] at hR
      by_cases c1_2 : p0 = 108
      · rw [if_pos c1_2] at hR
        refine lv_tableIn (tgt := 92) hx hb dX3_letterOf_1 (by rw [c1_2]; decide) (by rw [c1_2]; decide) (by rw [c1_2]; rfl) (by decide) ?_
        refine lv_iconst (v := 2) hx hb dX3_letterOf_92 (by decide) ?_
        rw [hQ]
        exact rt_i X hr hlk w hsz rfl rfl rfl (lf1 hR) dX3_letterOf_93
      · rw [if_neg c1_2] at hR
        by_cases c1_3 : p0 = 110
        · rw [if_pos c1_3] at hR
          refine lv_tableIn (tgt := 96) hx hb dX3_letterOf_1 (by rw [c1_3]; decide) (by rw [c1_3]; decide) (by rw [c1_3]; rfl) (by decide) ?_
          refine lv_iconst (v := 4) hx hb dX3_letterOf_96 (by decide) ?_
          rw [hQ]
          exact rt_i X hr hlk w hsz rfl rfl rfl (lf1 hR) dX3_letterOf_97
        · rw [if_neg c1_3] at hR
          by_cases c1_4 : p0 = 112
          · rw [if_pos c1_4] at hR
            refine lv_tableIn (tgt := 90) hx hb dX3_letterOf_1 (by rw [c1_4]; decide) (by rw [c1_4]; decide) (by rw [c1_4]; rfl) (by decide) ?_
            refine lv_iconst (v := 1) hx hb dX3_letterOf_90 (by decide) ?_
            rw [hQ]
            exact rt_i X hr hlk w hsz rfl rfl rfl (lf1 hR) dX3_letterOf_91
          · rw [if_neg c1_4] at hR
            by_cases c1_5 : p0 = 116
            · rw [if_pos c1_5] at hR
              refine lv_tableIn (tgt := 98) hx hb dX3_letterOf_1 (by rw [c1_5]; decide) (by rw [c1_5]; decide) (by rw [c1_5]; rfl) (by decide) ?_
              refine lv_iconst (v := 5) hx hb dX3_letterOf_98 (by decide) ?_
              rw [hQ]
              exact rt_i X hr hlk w hsz rfl rfl rfl (lf1 hR) dX3_letterOf_99
            · rw [if_neg c1_5] at hR
              have hh0 := ne_int (n := 99) (by decide) c1_0
              have hh1 := ne_int (n := 101) (by decide) c1_1
              have hh2 := ne_int (n := 108) (by decide) c1_2
              have hh3 := ne_int (n := 110) (by decide) c1_3
              have hh4 := ne_int (n := 112) (by decide) c1_4
              have hh5 := ne_int (n := 116) (by decide) c1_5
              by_cases c1_g0 : p0 = 100
              · refine lv_tableIn (tgt := 100) hx hb dX3_letterOf_1 (by rw [c1_g0]; decide) (by rw [c1_g0]; decide) (by rw [c1_g0]; rfl) (by decide) ?_
                refine lv_iconst (v := -1) hx hb dX3_letterOf_100 (by decide) ?_
                rw [hQ]
                exact rt_i X hr hlk w hsz rfl rfl rfl (lf1 hR) dX3_letterOf_101
              have hg0 := ne_int (n := 100) (by decide) c1_g0
              by_cases c1_g1 : p0 = 102
              · refine lv_tableIn (tgt := 100) hx hb dX3_letterOf_1 (by rw [c1_g1]; decide) (by rw [c1_g1]; decide) (by rw [c1_g1]; rfl) (by decide) ?_
                refine lv_iconst (v := -1) hx hb dX3_letterOf_100 (by decide) ?_
                rw [hQ]
                exact rt_i X hr hlk w hsz rfl rfl rfl (lf1 hR) dX3_letterOf_101
              have hg1 := ne_int (n := 102) (by decide) c1_g1
              by_cases c1_g2 : p0 = 103
              · refine lv_tableIn (tgt := 100) hx hb dX3_letterOf_1 (by rw [c1_g2]; decide) (by rw [c1_g2]; decide) (by rw [c1_g2]; rfl) (by decide) ?_
                refine lv_iconst (v := -1) hx hb dX3_letterOf_100 (by decide) ?_
                rw [hQ]
                exact rt_i X hr hlk w hsz rfl rfl rfl (lf1 hR) dX3_letterOf_101
              have hg2 := ne_int (n := 103) (by decide) c1_g2
              by_cases c1_g3 : p0 = 104
              · refine lv_tableIn (tgt := 100) hx hb dX3_letterOf_1 (by rw [c1_g3]; decide) (by rw [c1_g3]; decide) (by rw [c1_g3]; rfl) (by decide) ?_
                refine lv_iconst (v := -1) hx hb dX3_letterOf_100 (by decide) ?_
                rw [hQ]
                exact rt_i X hr hlk w hsz rfl rfl rfl (lf1 hR) dX3_letterOf_101
              have hg3 := ne_int (n := 104) (by decide) c1_g3
              by_cases c1_g4 : p0 = 105
              · refine lv_tableIn (tgt := 100) hx hb dX3_letterOf_1 (by rw [c1_g4]; decide) (by rw [c1_g4]; decide) (by rw [c1_g4]; rfl) (by decide) ?_
                refine lv_iconst (v := -1) hx hb dX3_letterOf_100 (by decide) ?_
                rw [hQ]
                exact rt_i X hr hlk w hsz rfl rfl rfl (lf1 hR) dX3_letterOf_101
              have hg4 := ne_int (n := 105) (by decide) c1_g4
              by_cases c1_g5 : p0 = 106
              · refine lv_tableIn (tgt := 100) hx hb dX3_letterOf_1 (by rw [c1_g5]; decide) (by rw [c1_g5]; decide) (by rw [c1_g5]; rfl) (by decide) ?_
                refine lv_iconst (v := -1) hx hb dX3_letterOf_100 (by decide) ?_
                rw [hQ]
                exact rt_i X hr hlk w hsz rfl rfl rfl (lf1 hR) dX3_letterOf_101
              have hg5 := ne_int (n := 106) (by decide) c1_g5
              by_cases c1_g6 : p0 = 107
              · refine lv_tableIn (tgt := 100) hx hb dX3_letterOf_1 (by rw [c1_g6]; decide) (by rw [c1_g6]; decide) (by rw [c1_g6]; rfl) (by decide) ?_
                refine lv_iconst (v := -1) hx hb dX3_letterOf_100 (by decide) ?_
                rw [hQ]
                exact rt_i X hr hlk w hsz rfl rfl rfl (lf1 hR) dX3_letterOf_101
              have hg6 := ne_int (n := 107) (by decide) c1_g6
              by_cases c1_g7 : p0 = 109
              · refine lv_tableIn (tgt := 100) hx hb dX3_letterOf_1 (by rw [c1_g7]; decide) (by rw [c1_g7]; decide) (by rw [c1_g7]; rfl) (by decide) ?_
                refine lv_iconst (v := -1) hx hb dX3_letterOf_100 (by decide) ?_
                rw [hQ]
                exact rt_i X hr hlk w hsz rfl rfl rfl (lf1 hR) dX3_letterOf_101
              have hg7 := ne_int (n := 109) (by decide) c1_g7
              by_cases c1_g8 : p0 = 111
              · refine lv_tableIn (tgt := 100) hx hb dX3_letterOf_1 (by rw [c1_g8]; decide) (by rw [c1_g8]; decide) (by rw [c1_g8]; rfl) (by decide) ?_
                refine lv_iconst (v := -1) hx hb dX3_letterOf_100 (by decide) ?_
                rw [hQ]
                exact rt_i X hr hlk w hsz rfl rfl rfl (lf1 hR) dX3_letterOf_101
              have hg8 := ne_int (n := 111) (by decide) c1_g8
              by_cases c1_g9 : p0 = 113
              · refine lv_tableIn (tgt := 100) hx hb dX3_letterOf_1 (by rw [c1_g9]; decide) (by rw [c1_g9]; decide) (by rw [c1_g9]; rfl) (by decide) ?_
                refine lv_iconst (v := -1) hx hb dX3_letterOf_100 (by decide) ?_
                rw [hQ]
                exact rt_i X hr hlk w hsz rfl rfl rfl (lf1 hR) dX3_letterOf_101
              have hg9 := ne_int (n := 113) (by decide) c1_g9
              by_cases c1_g10 : p0 = 114
              · refine lv_tableIn (tgt := 100) hx hb dX3_letterOf_1 (by rw [c1_g10]; decide) (by rw [c1_g10]; decide) (by rw [c1_g10]; rfl) (by decide) ?_
                refine lv_iconst (v := -1) hx hb dX3_letterOf_100 (by decide) ?_
                rw [hQ]
                exact rt_i X hr hlk w hsz rfl rfl rfl (lf1 hR) dX3_letterOf_101
              have hg10 := ne_int (n := 114) (by decide) c1_g10
              by_cases c1_g11 : p0 = 115
              · refine lv_tableIn (tgt := 100) hx hb dX3_letterOf_1 (by rw [c1_g11]; decide) (by rw [c1_g11]; decide) (by rw [c1_g11]; rfl) (by decide) ?_
                refine lv_iconst (v := -1) hx hb dX3_letterOf_100 (by decide) ?_
                rw [hQ]
                exact rt_i X hr hlk w hsz rfl rfl rfl (lf1 hR) dX3_letterOf_101
              have hg11 := ne_int (n := 115) (by decide) c1_g11
              refine lv_tableOut (tgt := 100) hx hb dX3_letterOf_1 (by omega) (by decide) ?_
              refine lv_iconst (v := -1) hx hb dX3_letterOf_100 (by decide) ?_
              rw [hQ]
              exact rt_i X hr hlk w hsz rfl rfl rfl (lf1 hR) dX3_letterOf_101
/- LooseEnds$LawReader.readAtom(I)Z -/
def fX3_readAtom (N : Nat) (rec : SS → Int32 → Option (SS × Int32)) (S : SS) (p1 : Int32) : Option (SS × Int32) := b2 (fX9_sign N S) fun S3 r2 =>
  bd (fX9_isDigit N r2) fun r5 =>
  if r5 = 0 then
  (if r2 = 91 then
  (if p1 < 6 then
  (lt (pj S3 1 2 ((gi S3 1 2) + 1)) fun S15 =>
  b2 (rec S15 (p1 + 1)) fun S18 r17 =>
  if r17 = 0 then
  (some (S18, 0))
  else
  (b2 (fX9_take N S18 93) fun S22 r21 =>
  if r21 = 0 then
  (some (S22, 0))
  else
  (some (S22, 1))))
  else
  (some (S3, 0)))
  else
  (bd (fX3_letterOf N r2) fun r9 =>
  if r9 = (-1) then
  (some (S3, 0))
  else
  (lt (pj S3 1 2 ((gi S3 1 2) + 1)) fun S11 =>
  bd (fX3_write N S11 (10000 + r9)) fun S13 =>
  some (S13, 1))))
  else
  (b2 (fX3_readNumber N S3) fun S26 r25 =>
  some (S26, r25))
set_option maxHeartbeats 4000000 in
set_option maxRecDepth 100000 in
theorem kX3_readAtom {l : Launch} {D : va_G} {dA : Nat → ClassId} {ad : Nat → Nat} {t1 t2 : Nat} {N : Nat} {rec : SS → Int32 → Option (SS × Int32)} {F L : Nat} (hrec : ∀ {S T : SS} {o : Nat → Int64} {p1 : Int32} {r : Int32} {S' : SS}, rec S p1 = some (S', r) → KI l D dA ad t1 t2 yX3_readSum cX3_readSum 4 .boolean { frames := F, cells := 0, slots := 0, locals := L } [.ref (ad 12), .int p1] S T o r S' T) {S T : SS} {o : Nat → Int64} {p1 : Int32} {r : Int32} {S' : SS} (hR : fX3_readAtom N rec S p1 = some (S', r)) : KI l D dA ad t1 t2 yX3_readAtom cX3_readAtom 4 .boolean { frames := F + 3, cells := 0, slots := 0, locals := L + 64 } [.ref (ad 12), .int p1] S T o r S' T := by
  intro sz
  refine en_ (plainFor_of_name (by decide)) (Nat.le_of_ble_eq_true rfl) ?_
  intro p ev s m args below meth c QQ hQ hsz X hr hlk w ls hl
  have hx := X.1
  have hb := X.2.1
  have hl : lv_has ls 4 [(0, .ref (ad 12)), (1, .int p1)] := hl
  unfold fX3_readAtom at hR
  refine lv_aload_n hx hb dX3_readAtom_0 rfl (lv_at hl 0 rfl) ?_
  refine gX3_tape X w lfX3_15 dX3_readAtom_1 ?_
  obtain ⟨S3, r2, h1, hR⟩ := b2_e hR
  refine cVi (k := 1) (As := []) (rest := []) X hl.1 w okX9_sign obX9 rfl lmX3_32 (kX9_sign h1) ⟨by show _ ≤ F + 3; dsimp only; omega, by show _ ≤ L + 64; simp only [List.map, Value.category, List.sum_cons, List.sum_nil, Nat.add_assoc]; omega⟩ ⟨rfl, rfl⟩ ⟨Nat.zero_le _, Nat.zero_le _⟩ rfl rfl (Nat.le_of_ble_eq_true rfl) dX3_readAtom_4 (fun H locs zr2 w => ?_)
  refine lv_istore_n (lv' := [(2, .int r2), (0, .ref (ad 12)), (1, .int p1)]) hx hb dX3_readAtom_7 rfl hl (by decide) rfl (fun ls hl => ?_)
  refine lv_iload_n hx hb dX3_readAtom_8 rfl (lv_at hl 0 rfl) ?_
  obtain ⟨r5, h4, hR⟩ := bd_e hR
  refine cSi (As := [.int r2]) (rest := []) X hl.1 w okX9_isDigit lmX3_75 (kX9_isDigit h4) ⟨by show _ ≤ F + 3; dsimp only; omega, by show _ ≤ L + 64; simp only [List.map, Value.category, List.sum_cons, List.sum_nil, Nat.add_assoc]; omega⟩ ⟨rfl, rfl⟩ ⟨Nat.zero_le _, Nat.zero_le _⟩ rfl rfl (Nat.le_of_ble_eq_true rfl) dX3_readAtom_9 (fun H locs zr5 w => ?_)
  refine lv_if_eq (tgt := 20) hx hb dX3_readAtom_12 (by decide) (fun c6 => ?_) (fun c6 => ?_)
  · rw [if_pos c6] at hR
    refine lv_iload_n hx hb dX3_readAtom_20 rfl (lv_at hl 0 rfl) ?_
    refine lv_bipush (v := 91) hx hb dX3_readAtom_21 (by decide) ?_
    refine lv_icmp_ne (tgt := 75) hx hb dX3_readAtom_23 (by decide) (fun c7 => ?_) (fun c7 => ?_)
    · rw [if_neg c7] at hR
      refine lv_iload_n hx hb dX3_readAtom_75 rfl (lv_at hl 0 rfl) ?_
      obtain ⟨r9, h8, hR⟩ := bd_e hR
      refine cSi (As := [.int r2]) (rest := []) X hl.1 w okX3_letterOf lmX3_81 (kX3_letterOf h8) ⟨by show _ ≤ F + 3; dsimp only; omega, by show _ ≤ L + 64; simp only [List.map, Value.category, List.sum_cons, List.sum_nil, Nat.add_assoc]; omega⟩ ⟨rfl, rfl⟩ ⟨Nat.zero_le _, Nat.zero_le _⟩ rfl rfl (Nat.le_of_ble_eq_true rfl) dX3_readAtom_76 (fun H locs zr9 w => ?_)
      refine lv_istore_n (lv' := [(3, .int r9), (2, .int r2), (0, .ref (ad 12)), (1, .int p1)]) hx hb dX3_readAtom_79 rfl hl (by decide) rfl (fun ls hl => ?_)
      refine lv_iload_n hx hb dX3_readAtom_80 rfl (lv_at hl 0 rfl) ?_
      refine lv_iconst (v := -1) hx hb dX3_readAtom_81 (by decide) ?_
      refine lv_icmp_ne (tgt := 87) hx hb dX3_readAtom_82 (by decide) (fun c10 => ?_) (fun c10 => ?_)
      · rw [if_neg c10] at hR
        refine lv_aload_n hx hb dX3_readAtom_87 rfl (lv_at hl 2 rfl) ?_
        refine gX3_tape X w lfX3_15 dX3_readAtom_88 ?_
        refine lv_dup hx hb dX3_readAtom_91 rfl ?_
        refine gX9_at X w lfX3_23 dX3_readAtom_92 ?_
        refine lv_iconst (v := 1) hx hb dX3_readAtom_95 (by decide) ?_
        refine lv_iadd hx hb dX3_readAtom_96 ?_
        obtain ⟨S11, eS11, hR⟩ := lt_e hR
        refine pX9_at X w lfX3_23 dX3_readAtom_97 (fun H locs w => ?_)
        rw [← eS11] at w
        refine lv_aload_n hx hb dX3_readAtom_100 rfl (lv_at hl 2 rfl) ?_
        refine lv_sipush (v := 10000) hx hb dX3_readAtom_101 (by decide) ?_
        refine lv_iload_n hx hb dX3_readAtom_104 rfl (lv_at hl 0 rfl) ?_
        refine lv_iadd hx hb dX3_readAtom_105 ?_
        obtain ⟨S13, h12, hR⟩ := bd_e hR
        refine cVv (k := 12) (As := [.int (10000 + r9)]) (rest := []) X hl.1 w okX3_write obX3 rfl lmX3_52 (kX3_write h12) ⟨by show _ ≤ F + 3; dsimp only; omega, by show _ ≤ L + 64; simp only [List.map, Value.category, List.sum_cons, List.sum_nil, Nat.add_assoc]; omega⟩ ⟨rfl, rfl⟩ ⟨Nat.zero_le _, Nat.zero_le _⟩ rfl rfl (Nat.le_of_ble_eq_true rfl) dX3_readAtom_106 (fun H locs w => ?_)
        refine lv_iconst (v := 1) hx hb dX3_readAtom_109 (by decide) ?_
        rw [hQ]
        exact rt_i X hr hlk w hsz rfl (lf2 hR).1 rfl (lf2 hR).2 dX3_readAtom_110
      · rw [if_pos c10] at hR
        refine lv_iconst (v := 0) hx hb dX3_readAtom_85 (by decide) ?_
        rw [hQ]
        exact rt_i X hr hlk w hsz rfl (lf2 hR).1 rfl (lf2 hR).2 dX3_readAtom_86
    · rw [if_pos c7] at hR
      refine lv_iload_n hx hb dX3_readAtom_26 rfl (lv_at hl 2 rfl) ?_
      refine lv_bipush (v := 6) hx hb dX3_readAtom_27 (by decide) ?_
      refine lv_icmp_lt (tgt := 34) hx hb dX3_readAtom_29 (by decide) (fun c14 => ?_) (fun c14 => ?_)
      · rw [if_pos c14] at hR
        refine lv_aload_n hx hb dX3_readAtom_34 rfl (lv_at hl 1 rfl) ?_
        refine gX3_tape X w lfX3_15 dX3_readAtom_35 ?_
        refine lv_dup hx hb dX3_readAtom_38 rfl ?_
        refine gX9_at X w lfX3_23 dX3_readAtom_39 ?_
        refine lv_iconst (v := 1) hx hb dX3_readAtom_42 (by decide) ?_
        refine lv_iadd hx hb dX3_readAtom_43 ?_
        obtain ⟨S15, eS15, hR⟩ := lt_e hR
        refine pX9_at X w lfX3_23 dX3_readAtom_44 (fun H locs w => ?_)
        rw [← eS15] at w
        refine lv_aload_n hx hb dX3_readAtom_47 rfl (lv_at hl 1 rfl) ?_
        refine lv_iload_n hx hb dX3_readAtom_48 rfl (lv_at hl 2 rfl) ?_
        refine lv_iconst (v := 1) hx hb dX3_readAtom_49 (by decide) ?_
        refine lv_iadd hx hb dX3_readAtom_50 ?_
        obtain ⟨S18, r17, h16, hR⟩ := b2_e hR
        refine cVi (k := 12) (As := [.int (p1 + 1)]) (rest := []) X hl.1 w okX3_readSum obX3 rfl lmX3_40 (hrec h16) ⟨by show _ ≤ F + 3; dsimp only; omega, by show _ ≤ L + 64; simp only [List.map, Value.category, List.sum_cons, List.sum_nil, Nat.add_assoc]; omega⟩ ⟨rfl, rfl⟩ ⟨Nat.zero_le _, Nat.zero_le _⟩ rfl rfl (Nat.le_of_ble_eq_true rfl) dX3_readAtom_51 (fun H locs zr17 w => ?_)
        refine lv_if_eq (tgt := 73) hx hb dX3_readAtom_54 (by decide) (fun c19 => ?_) (fun c19 => ?_)
        · rw [if_pos c19] at hR
          refine lv_iconst (v := 0) hx hb dX3_readAtom_73 (by decide) ?_
          rw [hQ]
          exact rt_i X hr hlk w hsz rfl (lf2 hR).1 rfl (lf2 hR).2 dX3_readAtom_74
        · rw [if_neg c19] at hR
          refine lv_aload_n hx hb dX3_readAtom_57 rfl (lv_at hl 1 rfl) ?_
          refine gX3_tape X w lfX3_15 dX3_readAtom_58 ?_
          refine lv_bipush (v := 93) hx hb dX3_readAtom_61 (by decide) ?_
          obtain ⟨S22, r21, h20, hR⟩ := b2_e hR
          refine cVi (k := 1) (As := [.int 93]) (rest := []) X hl.1 w okX9_take obX9 rfl lmX3_36 (kX9_take h20) ⟨by show _ ≤ F + 3; dsimp only; omega, by show _ ≤ L + 64; simp only [List.map, Value.category, List.sum_cons, List.sum_nil, Nat.add_assoc]; omega⟩ ⟨rfl, rfl⟩ ⟨Nat.zero_le _, Nat.zero_le _⟩ rfl rfl (Nat.le_of_ble_eq_true rfl) dX3_readAtom_63 (fun H locs zr21 w => ?_)
          refine lv_if_eq (tgt := 73) hx hb dX3_readAtom_66 (by decide) (fun c23 => ?_) (fun c23 => ?_)
          · rw [if_pos c23] at hR
            refine lv_iconst (v := 0) hx hb dX3_readAtom_73 (by decide) ?_
            rw [hQ]
            exact rt_i X hr hlk w hsz rfl (lf2 hR).1 rfl (lf2 hR).2 dX3_readAtom_74
          · rw [if_neg c23] at hR
            refine lv_iconst (v := 1) hx hb dX3_readAtom_69 (by decide) ?_
            refine lv_goto (tgt := 74) hx hb dX3_readAtom_70 (by decide) ?_
            rw [hQ]
            exact rt_i X hr hlk w hsz rfl (lf2 hR).1 rfl (lf2 hR).2 dX3_readAtom_74
      · rw [if_neg c14] at hR
        refine lv_iconst (v := 0) hx hb dX3_readAtom_32 (by decide) ?_
        rw [hQ]
        exact rt_i X hr hlk w hsz rfl (lf2 hR).1 rfl (lf2 hR).2 dX3_readAtom_33
  · rw [if_neg c6] at hR
    refine lv_aload_n hx hb dX3_readAtom_15 rfl (lv_at hl 1 rfl) ?_
    obtain ⟨S26, r25, h24, hR⟩ := b2_e hR
    refine cVi (k := 12) (As := []) (rest := []) X hl.1 w okX3_readNumber obX3 rfl lmX3_78 (kX3_readNumber h24) ⟨by show _ ≤ F + 3; dsimp only; omega, by show _ ≤ L + 64; simp only [List.map, Value.category, List.sum_cons, List.sum_nil, Nat.add_assoc]; omega⟩ ⟨rfl, rfl⟩ ⟨Nat.zero_le _, Nat.zero_le _⟩ rfl rfl (Nat.le_of_ble_eq_true rfl) dX3_readAtom_16 (fun H locs zr25 w => ?_)
    rw [hQ]
    exact rt_i X hr hlk w hsz zr25 (lf2 hR).1 rfl (lf2 hR).2 dX3_readAtom_19
/- LooseEnds$LawReader.readTerm(I)Z -/
def fX3_readTerm_j80 (N : Nat) (rec : SS → Int32 → Option (SS × Int32)) (kc12 : Int32 → Int32 → SS → Option (SS × Int32)) (x1 : Int32) (x2 : Int32) (y0 : Int32) (S : SS) : Option (SS × Int32) := bd (fX3_write N S y0) fun S2 =>
  lt (x2 + 1) fun v3 =>
  kc12 x1 v3 S2
def fX3_readTerm_j41 (N : Nat) (rec : SS → Int32 → Option (SS × Int32)) (kc12 : Int32 → Int32 → SS → Option (SS × Int32)) (x1 : Int32) (x2 : Int32) (x3 : Int32) (S : SS) : Option (SS × Int32) := lt (pj S 1 2 ((gi S 1 2) + 1)) fun S1 =>
  b2 (fX3_readAtom N rec S1 x1) fun S4 r3 =>
  if r3 = 0 then
  (some (S4, 0))
  else
  (if x3 = 42 then
  (fX3_readTerm_j80 N rec kc12 x1 x2 10012 S4)
  else
  (fX3_readTerm_j80 N rec kc12 x1 x2 10013 S4))
def fX3_readTerm_l12 (N : Nat) (rec : SS → Int32 → Option (SS × Int32)) : Nat → Int32 → Int32 → SS → Option (SS × Int32)
  | 0, _, _, _ => none
  | n + 1, x1, x2, S => if 240 ≤ x2 then
  (some (S, 1))
  else
  (b2 (fX9_sign N S) fun S4 r3 =>
  if r3 = 42 then
  (fX3_readTerm_j41 N rec (fX3_readTerm_l12 N rec n) x1 x2 r3 S4)
  else
  (if r3 = 47 then
  (fX3_readTerm_j41 N rec (fX3_readTerm_l12 N rec n) x1 x2 r3 S4)
  else
  (some (S4, 1))))
def fX3_readTerm (N : Nat) (rec : SS → Int32 → Option (SS × Int32)) (S : SS) (p1 : Int32) : Option (SS × Int32) := b2 (fX3_readAtom N rec S p1) fun S3 r2 =>
  if r2 = 0 then
  (some (S3, 0))
  else
  (fX3_readTerm_l12 N rec N p1 0 S3)
set_option maxHeartbeats 4000000 in
set_option maxRecDepth 100000 in
theorem kX3_readTerm {l : Launch} {D : va_G} {dA : Nat → ClassId} {ad : Nat → Nat} {t1 t2 : Nat} {N : Nat} {rec : SS → Int32 → Option (SS × Int32)} {F L : Nat} (hrec : ∀ {S T : SS} {o : Nat → Int64} {p1 : Int32} {r : Int32} {S' : SS}, rec S p1 = some (S', r) → KI l D dA ad t1 t2 yX3_readSum cX3_readSum 4 .boolean { frames := F, cells := 0, slots := 0, locals := L } [.ref (ad 12), .int p1] S T o r S' T) {S T : SS} {o : Nat → Int64} {p1 : Int32} {r : Int32} {S' : SS} (hR : fX3_readTerm N rec S p1 = some (S', r)) : KI l D dA ad t1 t2 yX3_readTerm cX3_readTerm 4 .boolean { frames := F + 4, cells := 0, slots := 0, locals := L + 87 } [.ref (ad 12), .int p1] S T o r S' T := by
  intro sz
  refine en_ (plainFor_of_name (by decide)) (Nat.le_of_ble_eq_true rfl) ?_
  intro p ev s m args below meth c QQ hQ hsz X hr hlk w ls hl
  have hx := X.1
  have hb := X.2.1
  have J80 : ∀ (kc12 : Int32 → Int32 → SS → Option (SS × Int32)) (_ : ∀ (x1 : Int32) (x2 : Int32) (S : SS), kc12 x1 x2 S = some (S', r) → WAT p l ev ({ frames := F + 4, cells := 0, slots := 0, locals := L + 87 } : Room) s m args below meth c QQ 4 D dA ad t1 t2 S T o 12 [(0, .ref (ad 12)), (1, .int x1), (2, .int x2)] []), ∀ (x1 : Int32) (x2 : Int32) (y0 : Int32) (S : SS), fX3_readTerm_j80 N rec kc12 x1 x2 y0 S = some (S', r) → WAT p l ev ({ frames := F + 4, cells := 0, slots := 0, locals := L + 87 } : Room) s m args below meth c QQ 4 D dA ad t1 t2 S T o 80 [(0, .ref (ad 12)), (1, .int x1), (2, .int x2)] [.int y0, .ref (ad 12)] := by
    intro kc12 hk12 x1 x2 y0 S hR H locs ls w hl
    unfold fX3_readTerm_j80 at hR
    obtain ⟨S2, h1, hR⟩ := bd_e hR
    refine cVv (k := 12) (As := [.int y0]) (rest := []) X hl.1 w okX3_write obX3 rfl lmX3_52 (kX3_write h1) ⟨by show _ ≤ F + 4; dsimp only; omega, by show _ ≤ L + 87; simp only [List.map, Value.category, List.sum_cons, List.sum_nil, Nat.add_assoc]; omega⟩ ⟨rfl, rfl⟩ ⟨Nat.zero_le _, Nat.zero_le _⟩ rfl rfl (Nat.le_of_ble_eq_true rfl) dX3_readTerm_80 (fun H locs w => ?_)
    obtain ⟨v3, ev3, hR⟩ := lt_e hR
    refine lv_iinc (v := v3) (lv' := [(2, .int v3), (0, .ref (ad 12)), (1, .int x1)]) hx hb dX3_readTerm_83 hl (k := 2) rfl (by rw [ev3]; rfl) (by decide) rfl (fun ls hl => ?_)
    refine lv_goto (tgt := 12) hx hb dX3_readTerm_86 (by decide) ?_
    exact hk12 x1 v3 S2 hR _ _ _ w (lv_sub hl [1, 2, 0] rfl)
  have J41 : ∀ (kc12 : Int32 → Int32 → SS → Option (SS × Int32)) (_ : ∀ (x1 : Int32) (x2 : Int32) (S : SS), kc12 x1 x2 S = some (S', r) → WAT p l ev ({ frames := F + 4, cells := 0, slots := 0, locals := L + 87 } : Room) s m args below meth c QQ 4 D dA ad t1 t2 S T o 12 [(0, .ref (ad 12)), (1, .int x1), (2, .int x2)] []), ∀ (x1 : Int32) (x2 : Int32) (x3 : Int32) (S : SS), fX3_readTerm_j41 N rec kc12 x1 x2 x3 S = some (S', r) → WAT p l ev ({ frames := F + 4, cells := 0, slots := 0, locals := L + 87 } : Room) s m args below meth c QQ 4 D dA ad t1 t2 S T o 41 [(0, .ref (ad 12)), (1, .int x1), (2, .int x2), (3, .int x3)] [] := by
    intro kc12 hk12 x1 x2 x3 S hR H locs ls w hl
    unfold fX3_readTerm_j41 at hR
    refine lv_aload_n hx hb dX3_readTerm_41 rfl (lv_at hl 0 rfl) ?_
    refine gX3_tape X w lfX3_15 dX3_readTerm_42 ?_
    refine lv_dup hx hb dX3_readTerm_45 rfl ?_
    refine gX9_at X w lfX3_23 dX3_readTerm_46 ?_
    refine lv_iconst (v := 1) hx hb dX3_readTerm_49 (by decide) ?_
    refine lv_iadd hx hb dX3_readTerm_50 ?_
    obtain ⟨S1, eS1, hR⟩ := lt_e hR
    refine pX9_at X w lfX3_23 dX3_readTerm_51 (fun H locs w => ?_)
    rw [← eS1] at w
    refine lv_aload_n hx hb dX3_readTerm_54 rfl (lv_at hl 0 rfl) ?_
    refine lv_iload_n hx hb dX3_readTerm_55 rfl (lv_at hl 1 rfl) ?_
    obtain ⟨S4, r3, h2, hR⟩ := b2_e hR
    refine cVi (k := 12) (As := [.int x1]) (rest := []) X hl.1 w okX3_readAtom obX3 rfl lmX3_72 (kX3_readAtom hrec h2) ⟨by show _ ≤ F + 4; dsimp only; omega, by show _ ≤ L + 87; simp only [List.map, Value.category, List.sum_cons, List.sum_nil, Nat.add_assoc]; omega⟩ ⟨rfl, rfl⟩ ⟨Nat.zero_le _, Nat.zero_le _⟩ rfl rfl (Nat.le_of_ble_eq_true rfl) dX3_readTerm_56 (fun H locs zr3 w => ?_)
    refine lv_if_ne (tgt := 64) hx hb dX3_readTerm_59 (by decide) (fun c5 => ?_) (fun c5 => ?_)
    · rw [if_neg c5] at hR
      refine lv_aload_n hx hb dX3_readTerm_64 rfl (lv_at hl 0 rfl) ?_
      refine lv_iload_n hx hb dX3_readTerm_65 rfl (lv_at hl 3 rfl) ?_
      refine lv_bipush (v := 42) hx hb dX3_readTerm_66 (by decide) ?_
      refine lv_icmp_ne (tgt := 77) hx hb dX3_readTerm_68 (by decide) (fun c6 => ?_) (fun c6 => ?_)
      · rw [if_neg c6] at hR
        refine lv_sipush (v := 10013) hx hb dX3_readTerm_77 (by decide) ?_
        exact J80 _ hk12 x1 x2 10013 S4 hR _ _ _ w (lv_sub hl [0, 1, 2] rfl)
      · rw [if_pos c6] at hR
        refine lv_sipush (v := 10012) hx hb dX3_readTerm_71 (by decide) ?_
        refine lv_goto (tgt := 80) hx hb dX3_readTerm_74 (by decide) ?_
        exact J80 _ hk12 x1 x2 10012 S4 hR _ _ _ w (lv_sub hl [0, 1, 2] rfl)
    · rw [if_pos c5] at hR
      refine lv_iconst (v := 0) hx hb dX3_readTerm_62 (by decide) ?_
      rw [hQ]
      exact rt_i X hr hlk w hsz rfl (lf2 hR).1 rfl (lf2 hR).2 dX3_readTerm_63
  have L12 : ∀ (n : Nat), ∀ (x1 : Int32) (x2 : Int32) (S : SS), fX3_readTerm_l12 N rec n x1 x2 S = some (S', r) → WAT p l ev ({ frames := F + 4, cells := 0, slots := 0, locals := L + 87 } : Room) s m args below meth c QQ 4 D dA ad t1 t2 S T o 12 [(0, .ref (ad 12)), (1, .int x1), (2, .int x2)] [] := by
    intro n
    induction n with
    | zero =>
      intro x1 x2 S hR
      exact nomatch hR
    | succ n ih =>
      intro x1 x2 S hR H locs ls w hl
      rw [fX3_readTerm_l12] at hR
      refine lv_iload_n hx hb dX3_readTerm_12 rfl (lv_at hl 2 rfl) ?_
      refine lv_sipush (v := 240) hx hb dX3_readTerm_13 (by decide) ?_
      refine lv_icmp_ge (tgt := 89) hx hb dX3_readTerm_16 (by decide) (fun c1 => ?_) (fun c1 => ?_)
      · rw [if_pos c1] at hR
        refine lv_iconst (v := 1) hx hb dX3_readTerm_89 (by decide) ?_
        rw [hQ]
        exact rt_i X hr hlk w hsz rfl (lf2 hR).1 rfl (lf2 hR).2 dX3_readTerm_90
      · rw [if_neg c1] at hR
        refine lv_aload_n hx hb dX3_readTerm_19 rfl (lv_at hl 0 rfl) ?_
        refine gX3_tape X w lfX3_15 dX3_readTerm_20 ?_
        obtain ⟨S4, r3, h2, hR⟩ := b2_e hR
        refine cVi (k := 1) (As := []) (rest := []) X hl.1 w okX9_sign obX9 rfl lmX3_32 (kX9_sign h2) ⟨by show _ ≤ F + 4; dsimp only; omega, by show _ ≤ L + 87; simp only [List.map, Value.category, List.sum_cons, List.sum_nil, Nat.add_assoc]; omega⟩ ⟨rfl, rfl⟩ ⟨Nat.zero_le _, Nat.zero_le _⟩ rfl rfl (Nat.le_of_ble_eq_true rfl) dX3_readTerm_23 (fun H locs zr3 w => ?_)
        refine lv_istore_n (lv' := [(3, .int r3), (0, .ref (ad 12)), (1, .int x1), (2, .int x2)]) hx hb dX3_readTerm_26 rfl hl (by decide) rfl (fun ls hl => ?_)
        refine lv_iload_n hx hb dX3_readTerm_27 rfl (lv_at hl 0 rfl) ?_
        refine lv_bipush (v := 42) hx hb dX3_readTerm_28 (by decide) ?_
        refine lv_icmp_eq (tgt := 41) hx hb dX3_readTerm_30 (by decide) (fun c5 => ?_) (fun c5 => ?_)
        · rw [if_pos c5] at hR
          exact J41 _ ih x1 x2 r3 S4 hR _ _ _ w (lv_sub hl [1, 2, 3, 0] rfl)
        · rw [if_neg c5] at hR
          refine lv_iload_n hx hb dX3_readTerm_33 rfl (lv_at hl 0 rfl) ?_
          refine lv_bipush (v := 47) hx hb dX3_readTerm_34 (by decide) ?_
          refine lv_icmp_eq (tgt := 41) hx hb dX3_readTerm_36 (by decide) (fun c6 => ?_) (fun c6 => ?_)
          · rw [if_pos c6] at hR
            exact J41 _ ih x1 x2 r3 S4 hR _ _ _ w (lv_sub hl [1, 2, 3, 0] rfl)
          · rw [if_neg c6] at hR
            refine lv_iconst (v := 1) hx hb dX3_readTerm_39 (by decide) ?_
            rw [hQ]
            exact rt_i X hr hlk w hsz rfl (lf2 hR).1 rfl (lf2 hR).2 dX3_readTerm_40
  have hl : lv_has ls 4 [(0, .ref (ad 12)), (1, .int p1)] := hl
  unfold fX3_readTerm at hR
  refine lv_aload_n hx hb dX3_readTerm_0 rfl (lv_at hl 0 rfl) ?_
  refine lv_iload_n hx hb dX3_readTerm_1 rfl (lv_at hl 1 rfl) ?_
  obtain ⟨S3, r2, h1, hR⟩ := b2_e hR
  refine cVi (k := 12) (As := [.int p1]) (rest := []) X hl.1 w okX3_readAtom obX3 rfl lmX3_72 (kX3_readAtom hrec h1) ⟨by show _ ≤ F + 4; dsimp only; omega, by show _ ≤ L + 87; simp only [List.map, Value.category, List.sum_cons, List.sum_nil, Nat.add_assoc]; omega⟩ ⟨rfl, rfl⟩ ⟨Nat.zero_le _, Nat.zero_le _⟩ rfl rfl (Nat.le_of_ble_eq_true rfl) dX3_readTerm_2 (fun H locs zr2 w => ?_)
  refine lv_if_ne (tgt := 10) hx hb dX3_readTerm_5 (by decide) (fun c4 => ?_) (fun c4 => ?_)
  · rw [if_neg c4] at hR
    refine lv_iconst (v := 0) hx hb dX3_readTerm_10 (by decide) ?_
    refine lv_istore_n (lv' := [(2, .int 0), (0, .ref (ad 12)), (1, .int p1)]) hx hb dX3_readTerm_11 rfl hl (by decide) rfl (fun ls hl => ?_)
    exact L12 N p1 0 S3 hR _ _ _ w (lv_sub hl [1, 2, 0] rfl)
  · rw [if_pos c4] at hR
    refine lv_iconst (v := 0) hx hb dX3_readTerm_8 (by decide) ?_
    rw [hQ]
    exact rt_i X hr hlk w hsz rfl (lf2 hR).1 rfl (lf2 hR).2 dX3_readTerm_9
/- LooseEnds$LawReader.readSum(I)Z -/
def fX3_readSum_j80 (N : Nat) (rec : SS → Int32 → Option (SS × Int32)) (kc12 : Int32 → Int32 → SS → Option (SS × Int32)) (x1 : Int32) (x2 : Int32) (y0 : Int32) (S : SS) : Option (SS × Int32) := bd (fX3_write N S y0) fun S2 =>
  lt (x2 + 1) fun v3 =>
  kc12 x1 v3 S2
def fX3_readSum_j41 (N : Nat) (rec : SS → Int32 → Option (SS × Int32)) (kc12 : Int32 → Int32 → SS → Option (SS × Int32)) (x1 : Int32) (x2 : Int32) (x3 : Int32) (S : SS) : Option (SS × Int32) := lt (pj S 1 2 ((gi S 1 2) + 1)) fun S1 =>
  b2 (fX3_readTerm N rec S1 x1) fun S4 r3 =>
  if r3 = 0 then
  (some (S4, 0))
  else
  (if x3 = 43 then
  (fX3_readSum_j80 N rec kc12 x1 x2 10010 S4)
  else
  (fX3_readSum_j80 N rec kc12 x1 x2 10011 S4))
def fX3_readSum_l12 (N : Nat) (rec : SS → Int32 → Option (SS × Int32)) : Nat → Int32 → Int32 → SS → Option (SS × Int32)
  | 0, _, _, _ => none
  | n + 1, x1, x2, S => if 240 ≤ x2 then
  (some (S, 1))
  else
  (b2 (fX9_sign N S) fun S4 r3 =>
  if r3 = 43 then
  (fX3_readSum_j41 N rec (fX3_readSum_l12 N rec n) x1 x2 r3 S4)
  else
  (if r3 = 45 then
  (fX3_readSum_j41 N rec (fX3_readSum_l12 N rec n) x1 x2 r3 S4)
  else
  (some (S4, 1))))
def fX3_readSum_b (N : Nat) (rec : SS → Int32 → Option (SS × Int32)) (S : SS) (p1 : Int32) : Option (SS × Int32) := b2 (fX3_readTerm N rec S p1) fun S3 r2 =>
  if r2 = 0 then
  (some (S3, 0))
  else
  (fX3_readSum_l12 N rec N p1 0 S3)
def fX3_readSum (N : Nat) : Nat → SS → Int32 → Option (SS × Int32)
  | 0, _, _ => none
  | d + 1, S, p1 => fX3_readSum_b N (fX3_readSum N d) S p1
set_option maxHeartbeats 4000000 in
set_option maxRecDepth 100000 in
theorem kX3_readSum_b {l : Launch} {D : va_G} {dA : Nat → ClassId} {ad : Nat → Nat} {t1 t2 : Nat} {N : Nat} {rec : SS → Int32 → Option (SS × Int32)} {F L : Nat} (hrec : ∀ {S T : SS} {o : Nat → Int64} {p1 : Int32} {r : Int32} {S' : SS}, rec S p1 = some (S', r) → KI l D dA ad t1 t2 yX3_readSum cX3_readSum 4 .boolean { frames := F, cells := 0, slots := 0, locals := L } [.ref (ad 12), .int p1] S T o r S' T) {S T : SS} {o : Nat → Int64} {p1 : Int32} {r : Int32} {S' : SS} (hR : fX3_readSum_b N rec S p1 = some (S', r)) : KI l D dA ad t1 t2 yX3_readSum cX3_readSum 4 .boolean { frames := F + 5, cells := 0, slots := 0, locals := L + 110 } [.ref (ad 12), .int p1] S T o r S' T := by
  intro sz
  refine en_ (plainFor_of_name (by decide)) (Nat.le_of_ble_eq_true rfl) ?_
  intro p ev s m args below meth c QQ hQ hsz X hr hlk w ls hl
  have hx := X.1
  have hb := X.2.1
  have J80 : ∀ (kc12 : Int32 → Int32 → SS → Option (SS × Int32)) (_ : ∀ (x1 : Int32) (x2 : Int32) (S : SS), kc12 x1 x2 S = some (S', r) → WAT p l ev ({ frames := F + 5, cells := 0, slots := 0, locals := L + 110 } : Room) s m args below meth c QQ 4 D dA ad t1 t2 S T o 12 [(0, .ref (ad 12)), (1, .int x1), (2, .int x2)] []), ∀ (x1 : Int32) (x2 : Int32) (y0 : Int32) (S : SS), fX3_readSum_j80 N rec kc12 x1 x2 y0 S = some (S', r) → WAT p l ev ({ frames := F + 5, cells := 0, slots := 0, locals := L + 110 } : Room) s m args below meth c QQ 4 D dA ad t1 t2 S T o 80 [(0, .ref (ad 12)), (1, .int x1), (2, .int x2)] [.int y0, .ref (ad 12)] := by
    intro kc12 hk12 x1 x2 y0 S hR H locs ls w hl
    unfold fX3_readSum_j80 at hR
    obtain ⟨S2, h1, hR⟩ := bd_e hR
    refine cVv (k := 12) (As := [.int y0]) (rest := []) X hl.1 w okX3_write obX3 rfl lmX3_52 (kX3_write h1) ⟨by show _ ≤ F + 5; dsimp only; omega, by show _ ≤ L + 110; simp only [List.map, Value.category, List.sum_cons, List.sum_nil, Nat.add_assoc]; omega⟩ ⟨rfl, rfl⟩ ⟨Nat.zero_le _, Nat.zero_le _⟩ rfl rfl (Nat.le_of_ble_eq_true rfl) dX3_readSum_80 (fun H locs w => ?_)
    obtain ⟨v3, ev3, hR⟩ := lt_e hR
    refine lv_iinc (v := v3) (lv' := [(2, .int v3), (0, .ref (ad 12)), (1, .int x1)]) hx hb dX3_readSum_83 hl (k := 2) rfl (by rw [ev3]; rfl) (by decide) rfl (fun ls hl => ?_)
    refine lv_goto (tgt := 12) hx hb dX3_readSum_86 (by decide) ?_
    exact hk12 x1 v3 S2 hR _ _ _ w (lv_sub hl [1, 2, 0] rfl)
  have J41 : ∀ (kc12 : Int32 → Int32 → SS → Option (SS × Int32)) (_ : ∀ (x1 : Int32) (x2 : Int32) (S : SS), kc12 x1 x2 S = some (S', r) → WAT p l ev ({ frames := F + 5, cells := 0, slots := 0, locals := L + 110 } : Room) s m args below meth c QQ 4 D dA ad t1 t2 S T o 12 [(0, .ref (ad 12)), (1, .int x1), (2, .int x2)] []), ∀ (x1 : Int32) (x2 : Int32) (x3 : Int32) (S : SS), fX3_readSum_j41 N rec kc12 x1 x2 x3 S = some (S', r) → WAT p l ev ({ frames := F + 5, cells := 0, slots := 0, locals := L + 110 } : Room) s m args below meth c QQ 4 D dA ad t1 t2 S T o 41 [(0, .ref (ad 12)), (1, .int x1), (2, .int x2), (3, .int x3)] [] := by
    intro kc12 hk12 x1 x2 x3 S hR H locs ls w hl
    unfold fX3_readSum_j41 at hR
    refine lv_aload_n hx hb dX3_readSum_41 rfl (lv_at hl 0 rfl) ?_
    refine gX3_tape X w lfX3_15 dX3_readSum_42 ?_
    refine lv_dup hx hb dX3_readSum_45 rfl ?_
    refine gX9_at X w lfX3_23 dX3_readSum_46 ?_
    refine lv_iconst (v := 1) hx hb dX3_readSum_49 (by decide) ?_
    refine lv_iadd hx hb dX3_readSum_50 ?_
    obtain ⟨S1, eS1, hR⟩ := lt_e hR
    refine pX9_at X w lfX3_23 dX3_readSum_51 (fun H locs w => ?_)
    rw [← eS1] at w
    refine lv_aload_n hx hb dX3_readSum_54 rfl (lv_at hl 0 rfl) ?_
    refine lv_iload_n hx hb dX3_readSum_55 rfl (lv_at hl 1 rfl) ?_
    obtain ⟨S4, r3, h2, hR⟩ := b2_e hR
    refine cVi (k := 12) (As := [.int x1]) (rest := []) X hl.1 w okX3_readTerm obX3 rfl lmX3_69 (kX3_readTerm hrec h2) ⟨by show _ ≤ F + 5; dsimp only; omega, by show _ ≤ L + 110; simp only [List.map, Value.category, List.sum_cons, List.sum_nil, Nat.add_assoc]; omega⟩ ⟨rfl, rfl⟩ ⟨Nat.zero_le _, Nat.zero_le _⟩ rfl rfl (Nat.le_of_ble_eq_true rfl) dX3_readSum_56 (fun H locs zr3 w => ?_)
    refine lv_if_ne (tgt := 64) hx hb dX3_readSum_59 (by decide) (fun c5 => ?_) (fun c5 => ?_)
    · rw [if_neg c5] at hR
      refine lv_aload_n hx hb dX3_readSum_64 rfl (lv_at hl 0 rfl) ?_
      refine lv_iload_n hx hb dX3_readSum_65 rfl (lv_at hl 3 rfl) ?_
      refine lv_bipush (v := 43) hx hb dX3_readSum_66 (by decide) ?_
      refine lv_icmp_ne (tgt := 77) hx hb dX3_readSum_68 (by decide) (fun c6 => ?_) (fun c6 => ?_)
      · rw [if_neg c6] at hR
        refine lv_sipush (v := 10011) hx hb dX3_readSum_77 (by decide) ?_
        exact J80 _ hk12 x1 x2 10011 S4 hR _ _ _ w (lv_sub hl [0, 1, 2] rfl)
      · rw [if_pos c6] at hR
        refine lv_sipush (v := 10010) hx hb dX3_readSum_71 (by decide) ?_
        refine lv_goto (tgt := 80) hx hb dX3_readSum_74 (by decide) ?_
        exact J80 _ hk12 x1 x2 10010 S4 hR _ _ _ w (lv_sub hl [0, 1, 2] rfl)
    · rw [if_pos c5] at hR
      refine lv_iconst (v := 0) hx hb dX3_readSum_62 (by decide) ?_
      rw [hQ]
      exact rt_i X hr hlk w hsz rfl (lf2 hR).1 rfl (lf2 hR).2 dX3_readSum_63
  have L12 : ∀ (n : Nat), ∀ (x1 : Int32) (x2 : Int32) (S : SS), fX3_readSum_l12 N rec n x1 x2 S = some (S', r) → WAT p l ev ({ frames := F + 5, cells := 0, slots := 0, locals := L + 110 } : Room) s m args below meth c QQ 4 D dA ad t1 t2 S T o 12 [(0, .ref (ad 12)), (1, .int x1), (2, .int x2)] [] := by
    intro n
    induction n with
    | zero =>
      intro x1 x2 S hR
      exact nomatch hR
    | succ n ih =>
      intro x1 x2 S hR H locs ls w hl
      rw [fX3_readSum_l12] at hR
      refine lv_iload_n hx hb dX3_readSum_12 rfl (lv_at hl 2 rfl) ?_
      refine lv_sipush (v := 240) hx hb dX3_readSum_13 (by decide) ?_
      refine lv_icmp_ge (tgt := 89) hx hb dX3_readSum_16 (by decide) (fun c1 => ?_) (fun c1 => ?_)
      · rw [if_pos c1] at hR
        refine lv_iconst (v := 1) hx hb dX3_readSum_89 (by decide) ?_
        rw [hQ]
        exact rt_i X hr hlk w hsz rfl (lf2 hR).1 rfl (lf2 hR).2 dX3_readSum_90
      · rw [if_neg c1] at hR
        refine lv_aload_n hx hb dX3_readSum_19 rfl (lv_at hl 0 rfl) ?_
        refine gX3_tape X w lfX3_15 dX3_readSum_20 ?_
        obtain ⟨S4, r3, h2, hR⟩ := b2_e hR
        refine cVi (k := 1) (As := []) (rest := []) X hl.1 w okX9_sign obX9 rfl lmX3_32 (kX9_sign h2) ⟨by show _ ≤ F + 5; dsimp only; omega, by show _ ≤ L + 110; simp only [List.map, Value.category, List.sum_cons, List.sum_nil, Nat.add_assoc]; omega⟩ ⟨rfl, rfl⟩ ⟨Nat.zero_le _, Nat.zero_le _⟩ rfl rfl (Nat.le_of_ble_eq_true rfl) dX3_readSum_23 (fun H locs zr3 w => ?_)
        refine lv_istore_n (lv' := [(3, .int r3), (0, .ref (ad 12)), (1, .int x1), (2, .int x2)]) hx hb dX3_readSum_26 rfl hl (by decide) rfl (fun ls hl => ?_)
        refine lv_iload_n hx hb dX3_readSum_27 rfl (lv_at hl 0 rfl) ?_
        refine lv_bipush (v := 43) hx hb dX3_readSum_28 (by decide) ?_
        refine lv_icmp_eq (tgt := 41) hx hb dX3_readSum_30 (by decide) (fun c5 => ?_) (fun c5 => ?_)
        · rw [if_pos c5] at hR
          exact J41 _ ih x1 x2 r3 S4 hR _ _ _ w (lv_sub hl [1, 2, 3, 0] rfl)
        · rw [if_neg c5] at hR
          refine lv_iload_n hx hb dX3_readSum_33 rfl (lv_at hl 0 rfl) ?_
          refine lv_bipush (v := 45) hx hb dX3_readSum_34 (by decide) ?_
          refine lv_icmp_eq (tgt := 41) hx hb dX3_readSum_36 (by decide) (fun c6 => ?_) (fun c6 => ?_)
          · rw [if_pos c6] at hR
            exact J41 _ ih x1 x2 r3 S4 hR _ _ _ w (lv_sub hl [1, 2, 3, 0] rfl)
          · rw [if_neg c6] at hR
            refine lv_iconst (v := 1) hx hb dX3_readSum_39 (by decide) ?_
            rw [hQ]
            exact rt_i X hr hlk w hsz rfl (lf2 hR).1 rfl (lf2 hR).2 dX3_readSum_40
  have hl : lv_has ls 4 [(0, .ref (ad 12)), (1, .int p1)] := hl
  unfold fX3_readSum_b at hR
  refine lv_aload_n hx hb dX3_readSum_0 rfl (lv_at hl 0 rfl) ?_
  refine lv_iload_n hx hb dX3_readSum_1 rfl (lv_at hl 1 rfl) ?_
  obtain ⟨S3, r2, h1, hR⟩ := b2_e hR
  refine cVi (k := 12) (As := [.int p1]) (rest := []) X hl.1 w okX3_readTerm obX3 rfl lmX3_69 (kX3_readTerm hrec h1) ⟨by show _ ≤ F + 5; dsimp only; omega, by show _ ≤ L + 110; simp only [List.map, Value.category, List.sum_cons, List.sum_nil, Nat.add_assoc]; omega⟩ ⟨rfl, rfl⟩ ⟨Nat.zero_le _, Nat.zero_le _⟩ rfl rfl (Nat.le_of_ble_eq_true rfl) dX3_readSum_2 (fun H locs zr2 w => ?_)
  refine lv_if_ne (tgt := 10) hx hb dX3_readSum_5 (by decide) (fun c4 => ?_) (fun c4 => ?_)
  · rw [if_neg c4] at hR
    refine lv_iconst (v := 0) hx hb dX3_readSum_10 (by decide) ?_
    refine lv_istore_n (lv' := [(2, .int 0), (0, .ref (ad 12)), (1, .int p1)]) hx hb dX3_readSum_11 rfl hl (by decide) rfl (fun ls hl => ?_)
    exact L12 N p1 0 S3 hR _ _ _ w (lv_sub hl [1, 2, 0] rfl)
  · rw [if_pos c4] at hR
    refine lv_iconst (v := 0) hx hb dX3_readSum_8 (by decide) ?_
    rw [hQ]
    exact rt_i X hr hlk w hsz rfl (lf2 hR).1 rfl (lf2 hR).2 dX3_readSum_9
theorem kX3_readSum {l : Launch} {D : va_G} {dA : Nat → ClassId} {ad : Nat → Nat} {t1 t2 : Nat} {N : Nat} (d : Nat) : ∀ {S T : SS} {o : Nat → Int64} {p1 : Int32} {r : Int32} {S' : SS}, fX3_readSum N d S p1 = some (S', r) → KI l D dA ad t1 t2 yX3_readSum cX3_readSum 4 .boolean { frames := 5 * d, cells := 0, slots := 0, locals := 110 * d } [.ref (ad 12), .int p1] S T o r S' T := by
  induction d with
  | zero =>
    intro S T o p1 r S' hR
    exact nomatch hR
  | succ d ih =>
    intro S T o p1 r S' hR
    exact kX3_readSum_b ih hR
/- LooseEnds$LawReader.isComparison(I)Z -/
def fX3_isComparison (N : Nat) (p0 : Int32) : Option (Int32) := if p0 = 61 then
  (some 1)
  else
  (if p0 = 60 then
  (some 1)
  else
  (if p0 = 62 then
  (some 1)
  else
  (some 0)))
set_option maxHeartbeats 4000000 in
set_option maxRecDepth 100000 in
theorem kX3_isComparison {l : Launch} {D : va_G} {dA : Nat → ClassId} {ad : Nat → Nat} {t1 t2 : Nat} {N : Nat} {S T : SS} {o : Nat → Int64} {p0 : Int32} {r : Int32} (hR : fX3_isComparison N p0 = some r) : KI l D dA ad t1 t2 yX3_isComparison cX3_isComparison 1 .boolean { frames := 0, cells := 0, slots := 0, locals := 0 } [.int p0] S T o r S T := by
  intro sz
  refine en_ (plainFor_of_name (by decide)) (Nat.le_of_ble_eq_true rfl) ?_
  intro p ev s m args below meth c QQ hQ hsz X hr hlk w ls hl
  have hx := X.1
  have hb := X.2.1
  have hl : lv_has ls 1 [(0, .int p0)] := hl
  unfold fX3_isComparison at hR
  refine lv_iload_n hx hb dX3_isComparison_0 rfl (lv_at hl 0 rfl) ?_
  refine lv_bipush (v := 61) hx hb dX3_isComparison_1 (by decide) ?_
  refine lv_icmp_eq (tgt := 18) hx hb dX3_isComparison_3 (by decide) (fun c1 => ?_) (fun c1 => ?_)
  · rw [if_pos c1] at hR
    refine lv_iconst (v := 1) hx hb dX3_isComparison_18 (by decide) ?_
    refine lv_goto (tgt := 23) hx hb dX3_isComparison_19 (by decide) ?_
    rw [hQ]
    exact rt_i X hr hlk w hsz rfl rfl rfl (lf1 hR) dX3_isComparison_23
  · rw [if_neg c1] at hR
    refine lv_iload_n hx hb dX3_isComparison_6 rfl (lv_at hl 0 rfl) ?_
    refine lv_bipush (v := 60) hx hb dX3_isComparison_7 (by decide) ?_
    refine lv_icmp_eq (tgt := 18) hx hb dX3_isComparison_9 (by decide) (fun c2 => ?_) (fun c2 => ?_)
    · rw [if_pos c2] at hR
      refine lv_iconst (v := 1) hx hb dX3_isComparison_18 (by decide) ?_
      refine lv_goto (tgt := 23) hx hb dX3_isComparison_19 (by decide) ?_
      rw [hQ]
      exact rt_i X hr hlk w hsz rfl rfl rfl (lf1 hR) dX3_isComparison_23
    · rw [if_neg c2] at hR
      refine lv_iload_n hx hb dX3_isComparison_12 rfl (lv_at hl 0 rfl) ?_
      refine lv_bipush (v := 62) hx hb dX3_isComparison_13 (by decide) ?_
      refine lv_icmp_ne (tgt := 22) hx hb dX3_isComparison_15 (by decide) (fun c3 => ?_) (fun c3 => ?_)
      · rw [if_neg c3] at hR
        refine lv_iconst (v := 0) hx hb dX3_isComparison_22 (by decide) ?_
        rw [hQ]
        exact rt_i X hr hlk w hsz rfl rfl rfl (lf1 hR) dX3_isComparison_23
      · rw [if_pos c3] at hR
        refine lv_iconst (v := 1) hx hb dX3_isComparison_18 (by decide) ?_
        refine lv_goto (tgt := 23) hx hb dX3_isComparison_19 (by decide) ?_
        rw [hQ]
        exact rt_i X hr hlk w hsz rfl rfl rfl (lf1 hR) dX3_isComparison_23
/- LooseEnds$LawReader.readComparison(I)Z -/
def fX3_readComparison_j68 (N : Nat) (y0 : Int32) (S : SS) : Option (SS × Int32) := bd (fX3_write N S y0) fun S2 =>
  some (S2, 1)
def fX3_readComparison (N : Nat) (S : SS) (p1 : Int32) : Option (SS × Int32) := b2 (fX9_sign N S) fun S3 r2 =>
  bd (fX3_isComparison N r2) fun r5 =>
  if r5 = 0 then
  (some (S3, 0))
  else
  (lt (pj S3 1 2 ((gi S3 1 2) + 1)) fun S7 =>
  b2 (fX3_readSum N 9 S7 p1) fun S10 r9 =>
  if r9 = 0 then
  (some (S10, 0))
  else
  (if r2 = 61 then
  (fX3_readComparison_j68 N 10014 S10)
  else
  (if r2 = 60 then
  (fX3_readComparison_j68 N 10015 S10)
  else
  (fX3_readComparison_j68 N 10016 S10))))
set_option maxHeartbeats 4000000 in
set_option maxRecDepth 100000 in
theorem kX3_readComparison {l : Launch} {D : va_G} {dA : Nat → ClassId} {ad : Nat → Nat} {t1 t2 : Nat} {N : Nat} {S T : SS} {o : Nat → Int64} {p1 : Int32} {r : Int32} {S' : SS} (hR : fX3_readComparison N S p1 = some (S', r)) : KI l D dA ad t1 t2 yX3_readComparison cX3_readComparison 3 .boolean { frames := 46, cells := 0, slots := 0, locals := 1013 } [.ref (ad 12), .int p1] S T o r S' T := by
  intro sz
  refine en_ (plainFor_of_name (by decide)) (Nat.le_of_ble_eq_true rfl) ?_
  intro p ev s m args below meth c QQ hQ hsz X hr hlk w ls hl
  have hx := X.1
  have hb := X.2.1
  have J68 : ∀ (y0 : Int32) (S : SS), fX3_readComparison_j68 N y0 S = some (S', r) → WAT p l ev ({ frames := 46, cells := 0, slots := 0, locals := 1013 } : Room) s m args below meth c QQ 3 D dA ad t1 t2 S T o 68 [] [.int y0, .ref (ad 12)] := by
    intro y0 S hR H locs ls w hl
    unfold fX3_readComparison_j68 at hR
    obtain ⟨S2, h1, hR⟩ := bd_e hR
    refine cVv (k := 12) (As := [.int y0]) (rest := []) X hl.1 w okX3_write obX3 rfl lmX3_52 (kX3_write h1) ⟨Nat.le_of_ble_eq_true rfl, Nat.le_of_ble_eq_true rfl⟩ ⟨rfl, rfl⟩ ⟨Nat.zero_le _, Nat.zero_le _⟩ rfl rfl (Nat.le_of_ble_eq_true rfl) dX3_readComparison_68 (fun H locs w => ?_)
    refine lv_iconst (v := 1) hx hb dX3_readComparison_71 (by decide) ?_
    rw [hQ]
    exact rt_i X hr hlk w hsz rfl (lf2 hR).1 rfl (lf2 hR).2 dX3_readComparison_72
  have hl : lv_has ls 3 [(0, .ref (ad 12)), (1, .int p1)] := hl
  unfold fX3_readComparison at hR
  refine lv_aload_n hx hb dX3_readComparison_0 rfl (lv_at hl 0 rfl) ?_
  refine gX3_tape X w lfX3_15 dX3_readComparison_1 ?_
  obtain ⟨S3, r2, h1, hR⟩ := b2_e hR
  refine cVi (k := 1) (As := []) (rest := []) X hl.1 w okX9_sign obX9 rfl lmX3_32 (kX9_sign h1) ⟨Nat.le_of_ble_eq_true rfl, Nat.le_of_ble_eq_true rfl⟩ ⟨rfl, rfl⟩ ⟨Nat.zero_le _, Nat.zero_le _⟩ rfl rfl (Nat.le_of_ble_eq_true rfl) dX3_readComparison_4 (fun H locs zr2 w => ?_)
  refine lv_istore_n (lv' := [(2, .int r2), (0, .ref (ad 12)), (1, .int p1)]) hx hb dX3_readComparison_7 rfl hl (by decide) rfl (fun ls hl => ?_)
  refine lv_iload_n hx hb dX3_readComparison_8 rfl (lv_at hl 0 rfl) ?_
  obtain ⟨r5, h4, hR⟩ := bd_e hR
  refine cSi (As := [.int r2]) (rest := []) X hl.1 w okX3_isComparison lmX3_43 (kX3_isComparison h4) ⟨Nat.le_of_ble_eq_true rfl, Nat.le_of_ble_eq_true rfl⟩ ⟨rfl, rfl⟩ ⟨Nat.zero_le _, Nat.zero_le _⟩ rfl rfl (Nat.le_of_ble_eq_true rfl) dX3_readComparison_9 (fun H locs zr5 w => ?_)
  refine lv_if_ne (tgt := 17) hx hb dX3_readComparison_12 (by decide) (fun c6 => ?_) (fun c6 => ?_)
  · rw [if_neg c6] at hR
    refine lv_aload_n hx hb dX3_readComparison_17 rfl (lv_at hl 1 rfl) ?_
    refine gX3_tape X w lfX3_15 dX3_readComparison_18 ?_
    refine lv_dup hx hb dX3_readComparison_21 rfl ?_
    refine gX9_at X w lfX3_23 dX3_readComparison_22 ?_
    refine lv_iconst (v := 1) hx hb dX3_readComparison_25 (by decide) ?_
    refine lv_iadd hx hb dX3_readComparison_26 ?_
    obtain ⟨S7, eS7, hR⟩ := lt_e hR
    refine pX9_at X w lfX3_23 dX3_readComparison_27 (fun H locs w => ?_)
    rw [← eS7] at w
    refine lv_aload_n hx hb dX3_readComparison_30 rfl (lv_at hl 1 rfl) ?_
    refine lv_iload_n hx hb dX3_readComparison_31 rfl (lv_at hl 2 rfl) ?_
    obtain ⟨S10, r9, h8, hR⟩ := b2_e hR
    refine cVi (k := 12) (As := [.int p1]) (rest := []) X hl.1 w okX3_readSum obX3 rfl lmX3_40 (kX3_readSum 9 h8) ⟨Nat.le_of_ble_eq_true rfl, Nat.le_of_ble_eq_true rfl⟩ ⟨rfl, rfl⟩ ⟨Nat.zero_le _, Nat.zero_le _⟩ rfl rfl (Nat.le_of_ble_eq_true rfl) dX3_readComparison_32 (fun H locs zr9 w => ?_)
    refine lv_if_ne (tgt := 40) hx hb dX3_readComparison_35 (by decide) (fun c11 => ?_) (fun c11 => ?_)
    · rw [if_neg c11] at hR
      refine lv_aload_n hx hb dX3_readComparison_40 rfl (lv_at hl 1 rfl) ?_
      refine lv_iload_n hx hb dX3_readComparison_41 rfl (lv_at hl 0 rfl) ?_
      refine lv_bipush (v := 61) hx hb dX3_readComparison_42 (by decide) ?_
      refine lv_icmp_ne (tgt := 53) hx hb dX3_readComparison_44 (by decide) (fun c12 => ?_) (fun c12 => ?_)
      · rw [if_neg c12] at hR
        refine lv_iload_n hx hb dX3_readComparison_53 rfl (lv_at hl 0 rfl) ?_
        refine lv_bipush (v := 60) hx hb dX3_readComparison_54 (by decide) ?_
        refine lv_icmp_ne (tgt := 65) hx hb dX3_readComparison_56 (by decide) (fun c13 => ?_) (fun c13 => ?_)
        · rw [if_neg c13] at hR
          refine lv_sipush (v := 10016) hx hb dX3_readComparison_65 (by decide) ?_
          exact J68 10016 S10 hR _ _ _ w (lv_sub hl [] rfl)
        · rw [if_pos c13] at hR
          refine lv_sipush (v := 10015) hx hb dX3_readComparison_59 (by decide) ?_
          refine lv_goto (tgt := 68) hx hb dX3_readComparison_62 (by decide) ?_
          exact J68 10015 S10 hR _ _ _ w (lv_sub hl [] rfl)
      · rw [if_pos c12] at hR
        refine lv_sipush (v := 10014) hx hb dX3_readComparison_47 (by decide) ?_
        refine lv_goto (tgt := 68) hx hb dX3_readComparison_50 (by decide) ?_
        exact J68 10014 S10 hR _ _ _ w (lv_sub hl [] rfl)
    · rw [if_pos c11] at hR
      refine lv_iconst (v := 0) hx hb dX3_readComparison_38 (by decide) ?_
      rw [hQ]
      exact rt_i X hr hlk w hsz rfl (lf2 hR).1 rfl (lf2 hR).2 dX3_readComparison_39
  · rw [if_pos c6] at hR
    refine lv_iconst (v := 0) hx hb dX3_readComparison_15 (by decide) ?_
    rw [hQ]
    exact rt_i X hr hlk w hsz rfl (lf2 hR).1 rfl (lf2 hR).2 dX3_readComparison_16
/- LooseEnds$LawReader.readTruth(IZ)Z -/
def fX3_readTruth_l27 (N : Nat) (rec : SS → Int32 → Option (SS × Int32)) : Nat → Int32 → Int32 → SS → Option (SS × Int32)
  | 0, _, _, _ => none
  | n + 1, x1, x3, S => if 240 ≤ x3 then
  (some (S, 1))
  else
  (b2 (fX9_take N S 38) fun S4 r3 =>
  if r3 = 0 then
  (some (S4, 1))
  else
  (b2 (rec S4 x1) fun S8 r7 =>
  if r7 = 0 then
  (some (S8, 0))
  else
  (bd (fX3_write N S8 10017) fun S11 =>
  lt (x3 + 1) fun v12 =>
  fX3_readTruth_l27 N rec n x1 v12 S11)))
def fX3_readTruth (N : Nat) (rec : SS → Int32 → Option (SS × Int32)) (S : SS) (p1 : Int32) (p2 : Int32) : Option (SS × Int32) := if p2 = 0 then
  (b2 (rec S p1) fun S4 r3 =>
  if r3 = 0 then
  (some (S4, 0))
  else
  (fX3_readTruth_l27 N rec N p1 0 S4))
  else
  (b2 (fX3_readComparison N S p1) fun S8 r7 =>
  if r7 = 0 then
  (some (S8, 0))
  else
  (fX3_readTruth_l27 N rec N p1 0 S8))
set_option maxHeartbeats 4000000 in
set_option maxRecDepth 100000 in
theorem kX3_readTruth {l : Launch} {D : va_G} {dA : Nat → ClassId} {ad : Nat → Nat} {t1 t2 : Nat} {N : Nat} {rec : SS → Int32 → Option (SS × Int32)} {F L : Nat} (hrec : ∀ {S T : SS} {o : Nat → Int64} {p1 : Int32} {r : Int32} {S' : SS}, rec S p1 = some (S', r) → KI l D dA ad t1 t2 yX3_readUnit cX3_readUnit 3 .boolean { frames := F, cells := 0, slots := 0, locals := L } [.ref (ad 12), .int p1] S T o r S' T) {S T : SS} {o : Nat → Int64} {p1 : Int32} {p2 : Int32} {r : Int32} {S' : SS} (hR : fX3_readTruth N rec S p1 p2 = some (S', r)) : KI l D dA ad t1 t2 yX3_readTruth cX3_readTruth 4 .boolean { frames := F + 47, cells := 0, slots := 0, locals := L + 1035 } [.ref (ad 12), .int p1, .int p2] S T o r S' T := by
  intro sz
  refine en_ (plainFor_of_name (by decide)) (Nat.le_of_ble_eq_true rfl) ?_
  intro p ev s m args below meth c QQ hQ hsz X hr hlk w ls hl
  have hx := X.1
  have hb := X.2.1
  have L27 : ∀ (n : Nat), ∀ (x1 : Int32) (x3 : Int32) (S : SS), fX3_readTruth_l27 N rec n x1 x3 S = some (S', r) → WAT p l ev ({ frames := F + 47, cells := 0, slots := 0, locals := L + 1035 } : Room) s m args below meth c QQ 4 D dA ad t1 t2 S T o 27 [(0, .ref (ad 12)), (1, .int x1), (3, .int x3)] [] := by
    intro n
    induction n with
    | zero =>
      intro x1 x3 S hR
      exact nomatch hR
    | succ n ih =>
      intro x1 x3 S hR H locs ls w hl
      rw [fX3_readTruth_l27] at hR
      refine lv_iload_n hx hb dX3_readTruth_27 rfl (lv_at hl 2 rfl) ?_
      refine lv_sipush (v := 240) hx hb dX3_readTruth_28 (by decide) ?_
      refine lv_icmp_ge (tgt := 69) hx hb dX3_readTruth_31 (by decide) (fun c1 => ?_) (fun c1 => ?_)
      · rw [if_pos c1] at hR
        refine lv_iconst (v := 1) hx hb dX3_readTruth_69 (by decide) ?_
        rw [hQ]
        exact rt_i X hr hlk w hsz rfl (lf2 hR).1 rfl (lf2 hR).2 dX3_readTruth_70
      · rw [if_neg c1] at hR
        refine lv_aload_n hx hb dX3_readTruth_34 rfl (lv_at hl 0 rfl) ?_
        refine gX3_tape X w lfX3_15 dX3_readTruth_35 ?_
        refine lv_bipush (v := 38) hx hb dX3_readTruth_38 (by decide) ?_
        obtain ⟨S4, r3, h2, hR⟩ := b2_e hR
        refine cVi (k := 1) (As := [.int 38]) (rest := []) X hl.1 w okX9_take obX9 rfl lmX3_36 (kX9_take h2) ⟨by show _ ≤ F + 47; dsimp only; omega, by show _ ≤ L + 1035; simp only [List.map, Value.category, List.sum_cons, List.sum_nil, Nat.add_assoc]; omega⟩ ⟨rfl, rfl⟩ ⟨Nat.zero_le _, Nat.zero_le _⟩ rfl rfl (Nat.le_of_ble_eq_true rfl) dX3_readTruth_40 (fun H locs zr3 w => ?_)
        refine lv_if_eq (tgt := 69) hx hb dX3_readTruth_43 (by decide) (fun c5 => ?_) (fun c5 => ?_)
        · rw [if_pos c5] at hR
          refine lv_iconst (v := 1) hx hb dX3_readTruth_69 (by decide) ?_
          rw [hQ]
          exact rt_i X hr hlk w hsz rfl (lf2 hR).1 rfl (lf2 hR).2 dX3_readTruth_70
        · rw [if_neg c5] at hR
          refine lv_aload_n hx hb dX3_readTruth_46 rfl (lv_at hl 0 rfl) ?_
          refine lv_iload_n hx hb dX3_readTruth_47 rfl (lv_at hl 1 rfl) ?_
          obtain ⟨S8, r7, h6, hR⟩ := b2_e hR
          refine cVi (k := 12) (As := [.int x1]) (rest := []) X hl.1 w okX3_readUnit obX3 rfl lmX3_66 (hrec h6) ⟨by show _ ≤ F + 47; dsimp only; omega, by show _ ≤ L + 1035; simp only [List.map, Value.category, List.sum_cons, List.sum_nil, Nat.add_assoc]; omega⟩ ⟨rfl, rfl⟩ ⟨Nat.zero_le _, Nat.zero_le _⟩ rfl rfl (Nat.le_of_ble_eq_true rfl) dX3_readTruth_48 (fun H locs zr7 w => ?_)
          refine lv_if_ne (tgt := 56) hx hb dX3_readTruth_51 (by decide) (fun c9 => ?_) (fun c9 => ?_)
          · rw [if_neg c9] at hR
            refine lv_aload_n hx hb dX3_readTruth_56 rfl (lv_at hl 0 rfl) ?_
            refine lv_sipush (v := 10017) hx hb dX3_readTruth_57 (by decide) ?_
            obtain ⟨S11, h10, hR⟩ := bd_e hR
            refine cVv (k := 12) (As := [.int 10017]) (rest := []) X hl.1 w okX3_write obX3 rfl lmX3_52 (kX3_write h10) ⟨by show _ ≤ F + 47; dsimp only; omega, by show _ ≤ L + 1035; simp only [List.map, Value.category, List.sum_cons, List.sum_nil, Nat.add_assoc]; omega⟩ ⟨rfl, rfl⟩ ⟨Nat.zero_le _, Nat.zero_le _⟩ rfl rfl (Nat.le_of_ble_eq_true rfl) dX3_readTruth_60 (fun H locs w => ?_)
            obtain ⟨v12, ev12, hR⟩ := lt_e hR
            refine lv_iinc (v := v12) (lv' := [(3, .int v12), (0, .ref (ad 12)), (1, .int x1)]) hx hb dX3_readTruth_63 hl (k := 2) rfl (by rw [ev12]; rfl) (by decide) rfl (fun ls hl => ?_)
            refine lv_goto (tgt := 27) hx hb dX3_readTruth_66 (by decide) ?_
            exact ih x1 v12 S11 hR _ _ _ w (lv_sub hl [1, 2, 0] rfl)
          · rw [if_pos c9] at hR
            refine lv_iconst (v := 0) hx hb dX3_readTruth_54 (by decide) ?_
            rw [hQ]
            exact rt_i X hr hlk w hsz rfl (lf2 hR).1 rfl (lf2 hR).2 dX3_readTruth_55
  have hl : lv_has ls 4 [(0, .ref (ad 12)), (1, .int p1), (2, .int p2)] := hl
  unfold fX3_readTruth at hR
  refine lv_iload_n hx hb dX3_readTruth_0 rfl (lv_at hl 2 rfl) ?_
  refine lv_if_eq (tgt := 15) hx hb dX3_readTruth_1 (by decide) (fun c1 => ?_) (fun c1 => ?_)
  · rw [if_pos c1] at hR
    refine lv_aload_n hx hb dX3_readTruth_15 rfl (lv_at hl 0 rfl) ?_
    refine lv_iload_n hx hb dX3_readTruth_16 rfl (lv_at hl 1 rfl) ?_
    obtain ⟨S4, r3, h2, hR⟩ := b2_e hR
    refine cVi (k := 12) (As := [.int p1]) (rest := []) X hl.1 w okX3_readUnit obX3 rfl lmX3_66 (hrec h2) ⟨by show _ ≤ F + 47; dsimp only; omega, by show _ ≤ L + 1035; simp only [List.map, Value.category, List.sum_cons, List.sum_nil, Nat.add_assoc]; omega⟩ ⟨rfl, rfl⟩ ⟨Nat.zero_le _, Nat.zero_le _⟩ rfl rfl (Nat.le_of_ble_eq_true rfl) dX3_readTruth_17 (fun H locs zr3 w => ?_)
    refine lv_if_ne (tgt := 25) hx hb dX3_readTruth_20 (by decide) (fun c5 => ?_) (fun c5 => ?_)
    · rw [if_neg c5] at hR
      refine lv_iconst (v := 0) hx hb dX3_readTruth_25 (by decide) ?_
      refine lv_istore_n (lv' := [(3, .int 0), (0, .ref (ad 12)), (1, .int p1), (2, .int p2)]) hx hb dX3_readTruth_26 rfl hl (by decide) rfl (fun ls hl => ?_)
      exact L27 N p1 0 S4 hR _ _ _ w (lv_sub hl [1, 2, 0] rfl)
    · rw [if_pos c5] at hR
      refine lv_iconst (v := 0) hx hb dX3_readTruth_23 (by decide) ?_
      rw [hQ]
      exact rt_i X hr hlk w hsz rfl (lf2 hR).1 rfl (lf2 hR).2 dX3_readTruth_24
  · rw [if_neg c1] at hR
    refine lv_aload_n hx hb dX3_readTruth_4 rfl (lv_at hl 0 rfl) ?_
    refine lv_iload_n hx hb dX3_readTruth_5 rfl (lv_at hl 1 rfl) ?_
    obtain ⟨S8, r7, h6, hR⟩ := b2_e hR
    refine cVi (k := 12) (As := [.int p1]) (rest := []) X hl.1 w okX3_readComparison obX3 rfl lmX3_63 (kX3_readComparison h6) ⟨by show _ ≤ F + 47; dsimp only; omega, by show _ ≤ L + 1035; simp only [List.map, Value.category, List.sum_cons, List.sum_nil, Nat.add_assoc]; omega⟩ ⟨rfl, rfl⟩ ⟨Nat.zero_le _, Nat.zero_le _⟩ rfl rfl (Nat.le_of_ble_eq_true rfl) dX3_readTruth_6 (fun H locs zr7 w => ?_)
    refine lv_if_ne (tgt := 25) hx hb dX3_readTruth_9 (by decide) (fun c9 => ?_) (fun c9 => ?_)
    · rw [if_neg c9] at hR
      refine lv_iconst (v := 0) hx hb dX3_readTruth_25 (by decide) ?_
      refine lv_istore_n (lv' := [(3, .int 0), (0, .ref (ad 12)), (1, .int p1), (2, .int p2)]) hx hb dX3_readTruth_26 rfl hl (by decide) rfl (fun ls hl => ?_)
      exact L27 N p1 0 S8 hR _ _ _ w (lv_sub hl [1, 2, 0] rfl)
    · rw [if_pos c9] at hR
      refine lv_goto (tgt := 23) hx hb dX3_readTruth_12 (by decide) ?_
      refine lv_iconst (v := 0) hx hb dX3_readTruth_23 (by decide) ?_
      rw [hQ]
      exact rt_i X hr hlk w hsz rfl (lf2 hR).1 rfl (lf2 hR).2 dX3_readTruth_24
/- LooseEnds$LawReader.readCondition(IZ)Z -/
def fX3_readCondition_l13 (N : Nat) (rec : SS → Int32 → Option (SS × Int32)) : Nat → Int32 → Int32 → SS → Option (SS × Int32)
  | 0, _, _, _ => none
  | n + 1, x1, x3, S => if 240 ≤ x3 then
  (some (S, 1))
  else
  (b2 (fX9_take N S 124) fun S4 r3 =>
  if r3 = 0 then
  (some (S4, 1))
  else
  (b2 (fX3_readTruth N rec S4 x1 0) fun S8 r7 =>
  if r7 = 0 then
  (some (S8, 0))
  else
  (bd (fX3_write N S8 10018) fun S11 =>
  lt (x3 + 1) fun v12 =>
  fX3_readCondition_l13 N rec n x1 v12 S11)))
def fX3_readCondition (N : Nat) (rec : SS → Int32 → Option (SS × Int32)) (S : SS) (p1 : Int32) (p2 : Int32) : Option (SS × Int32) := b2 (fX3_readTruth N rec S p1 p2) fun S3 r2 =>
  if r2 = 0 then
  (some (S3, 0))
  else
  (fX3_readCondition_l13 N rec N p1 0 S3)
set_option maxHeartbeats 4000000 in
set_option maxRecDepth 100000 in
theorem kX3_readCondition {l : Launch} {D : va_G} {dA : Nat → ClassId} {ad : Nat → Nat} {t1 t2 : Nat} {N : Nat} {rec : SS → Int32 → Option (SS × Int32)} {F L : Nat} (hrec : ∀ {S T : SS} {o : Nat → Int64} {p1 : Int32} {r : Int32} {S' : SS}, rec S p1 = some (S', r) → KI l D dA ad t1 t2 yX3_readUnit cX3_readUnit 3 .boolean { frames := F, cells := 0, slots := 0, locals := L } [.ref (ad 12), .int p1] S T o r S' T) {S T : SS} {o : Nat → Int64} {p1 : Int32} {p2 : Int32} {r : Int32} {S' : SS} (hR : fX3_readCondition N rec S p1 p2 = some (S', r)) : KI l D dA ad t1 t2 yX3_readCondition cX3_readCondition 4 .boolean { frames := F + 48, cells := 0, slots := 0, locals := L + 1058 } [.ref (ad 12), .int p1, .int p2] S T o r S' T := by
  intro sz
  refine en_ (plainFor_of_name (by decide)) (Nat.le_of_ble_eq_true rfl) ?_
  intro p ev s m args below meth c QQ hQ hsz X hr hlk w ls hl
  have hx := X.1
  have hb := X.2.1
  have L13 : ∀ (n : Nat), ∀ (x1 : Int32) (x3 : Int32) (S : SS), fX3_readCondition_l13 N rec n x1 x3 S = some (S', r) → WAT p l ev ({ frames := F + 48, cells := 0, slots := 0, locals := L + 1058 } : Room) s m args below meth c QQ 4 D dA ad t1 t2 S T o 13 [(0, .ref (ad 12)), (1, .int x1), (3, .int x3)] [] := by
    intro n
    induction n with
    | zero =>
      intro x1 x3 S hR
      exact nomatch hR
    | succ n ih =>
      intro x1 x3 S hR H locs ls w hl
      rw [fX3_readCondition_l13] at hR
      refine lv_iload_n hx hb dX3_readCondition_13 rfl (lv_at hl 2 rfl) ?_
      refine lv_sipush (v := 240) hx hb dX3_readCondition_14 (by decide) ?_
      refine lv_icmp_ge (tgt := 56) hx hb dX3_readCondition_17 (by decide) (fun c1 => ?_) (fun c1 => ?_)
      · rw [if_pos c1] at hR
        refine lv_iconst (v := 1) hx hb dX3_readCondition_56 (by decide) ?_
        rw [hQ]
        exact rt_i X hr hlk w hsz rfl (lf2 hR).1 rfl (lf2 hR).2 dX3_readCondition_57
      · rw [if_neg c1] at hR
        refine lv_aload_n hx hb dX3_readCondition_20 rfl (lv_at hl 0 rfl) ?_
        refine gX3_tape X w lfX3_15 dX3_readCondition_21 ?_
        refine lv_bipush (v := 124) hx hb dX3_readCondition_24 (by decide) ?_
        obtain ⟨S4, r3, h2, hR⟩ := b2_e hR
        refine cVi (k := 1) (As := [.int 124]) (rest := []) X hl.1 w okX9_take obX9 rfl lmX3_36 (kX9_take h2) ⟨by show _ ≤ F + 48; dsimp only; omega, by show _ ≤ L + 1058; simp only [List.map, Value.category, List.sum_cons, List.sum_nil, Nat.add_assoc]; omega⟩ ⟨rfl, rfl⟩ ⟨Nat.zero_le _, Nat.zero_le _⟩ rfl rfl (Nat.le_of_ble_eq_true rfl) dX3_readCondition_26 (fun H locs zr3 w => ?_)
        refine lv_if_eq (tgt := 56) hx hb dX3_readCondition_29 (by decide) (fun c5 => ?_) (fun c5 => ?_)
        · rw [if_pos c5] at hR
          refine lv_iconst (v := 1) hx hb dX3_readCondition_56 (by decide) ?_
          rw [hQ]
          exact rt_i X hr hlk w hsz rfl (lf2 hR).1 rfl (lf2 hR).2 dX3_readCondition_57
        · rw [if_neg c5] at hR
          refine lv_aload_n hx hb dX3_readCondition_32 rfl (lv_at hl 0 rfl) ?_
          refine lv_iload_n hx hb dX3_readCondition_33 rfl (lv_at hl 1 rfl) ?_
          refine lv_iconst (v := 0) hx hb dX3_readCondition_34 (by decide) ?_
          obtain ⟨S8, r7, h6, hR⟩ := b2_e hR
          refine cVi (k := 12) (As := [.int x1, .int 0]) (rest := []) X hl.1 w okX3_readTruth obX3 rfl lmX3_60 (kX3_readTruth hrec h6) ⟨by show _ ≤ F + 48; dsimp only; omega, by show _ ≤ L + 1058; simp only [List.map, Value.category, List.sum_cons, List.sum_nil, Nat.add_assoc]; omega⟩ ⟨rfl, rfl⟩ ⟨Nat.zero_le _, Nat.zero_le _⟩ rfl rfl (Nat.le_of_ble_eq_true rfl) dX3_readCondition_35 (fun H locs zr7 w => ?_)
          refine lv_if_ne (tgt := 43) hx hb dX3_readCondition_38 (by decide) (fun c9 => ?_) (fun c9 => ?_)
          · rw [if_neg c9] at hR
            refine lv_aload_n hx hb dX3_readCondition_43 rfl (lv_at hl 0 rfl) ?_
            refine lv_sipush (v := 10018) hx hb dX3_readCondition_44 (by decide) ?_
            obtain ⟨S11, h10, hR⟩ := bd_e hR
            refine cVv (k := 12) (As := [.int 10018]) (rest := []) X hl.1 w okX3_write obX3 rfl lmX3_52 (kX3_write h10) ⟨by show _ ≤ F + 48; dsimp only; omega, by show _ ≤ L + 1058; simp only [List.map, Value.category, List.sum_cons, List.sum_nil, Nat.add_assoc]; omega⟩ ⟨rfl, rfl⟩ ⟨Nat.zero_le _, Nat.zero_le _⟩ rfl rfl (Nat.le_of_ble_eq_true rfl) dX3_readCondition_47 (fun H locs w => ?_)
            obtain ⟨v12, ev12, hR⟩ := lt_e hR
            refine lv_iinc (v := v12) (lv' := [(3, .int v12), (0, .ref (ad 12)), (1, .int x1)]) hx hb dX3_readCondition_50 hl (k := 2) rfl (by rw [ev12]; rfl) (by decide) rfl (fun ls hl => ?_)
            refine lv_goto (tgt := 13) hx hb dX3_readCondition_53 (by decide) ?_
            exact ih x1 v12 S11 hR _ _ _ w (lv_sub hl [1, 2, 0] rfl)
          · rw [if_pos c9] at hR
            refine lv_iconst (v := 0) hx hb dX3_readCondition_41 (by decide) ?_
            rw [hQ]
            exact rt_i X hr hlk w hsz rfl (lf2 hR).1 rfl (lf2 hR).2 dX3_readCondition_42
  have hl : lv_has ls 4 [(0, .ref (ad 12)), (1, .int p1), (2, .int p2)] := hl
  unfold fX3_readCondition at hR
  refine lv_aload_n hx hb dX3_readCondition_0 rfl (lv_at hl 0 rfl) ?_
  refine lv_iload_n hx hb dX3_readCondition_1 rfl (lv_at hl 1 rfl) ?_
  refine lv_iload_n hx hb dX3_readCondition_2 rfl (lv_at hl 2 rfl) ?_
  obtain ⟨S3, r2, h1, hR⟩ := b2_e hR
  refine cVi (k := 12) (As := [.int p1, .int p2]) (rest := []) X hl.1 w okX3_readTruth obX3 rfl lmX3_60 (kX3_readTruth hrec h1) ⟨by show _ ≤ F + 48; dsimp only; omega, by show _ ≤ L + 1058; simp only [List.map, Value.category, List.sum_cons, List.sum_nil, Nat.add_assoc]; omega⟩ ⟨rfl, rfl⟩ ⟨Nat.zero_le _, Nat.zero_le _⟩ rfl rfl (Nat.le_of_ble_eq_true rfl) dX3_readCondition_3 (fun H locs zr2 w => ?_)
  refine lv_if_ne (tgt := 11) hx hb dX3_readCondition_6 (by decide) (fun c4 => ?_) (fun c4 => ?_)
  · rw [if_neg c4] at hR
    refine lv_iconst (v := 0) hx hb dX3_readCondition_11 (by decide) ?_
    refine lv_istore_n (lv' := [(3, .int 0), (0, .ref (ad 12)), (1, .int p1), (2, .int p2)]) hx hb dX3_readCondition_12 rfl hl (by decide) rfl (fun ls hl => ?_)
    exact L13 N p1 0 S3 hR _ _ _ w (lv_sub hl [1, 2, 0] rfl)
  · rw [if_pos c4] at hR
    refine lv_iconst (v := 0) hx hb dX3_readCondition_9 (by decide) ?_
    rw [hQ]
    exact rt_i X hr hlk w hsz rfl (lf2 hR).1 rfl (lf2 hR).2 dX3_readCondition_10
/- LooseEnds$LawReader.readUnit(I)Z -/
def fX3_readUnit_j42 (N : Nat) (rec : SS → Int32 → Option (SS × Int32)) (x1 : Int32) (x2 : Int32) (S : SS) : Option (SS × Int32) := if x1 < 6 then
  (lt (pj S 1 2 ((gi S 1 2) + 1)) fun S2 =>
  if x2 = 40 then
  (b2 (fX3_readCondition N rec S2 (x1 + 1) 0) fun S12 r11 =>
  if r11 = 0 then
  (some (S12, 0))
  else
  (b2 (fX9_take N S12 41) fun S16 r15 =>
  if r15 = 0 then
  (some (S16, 0))
  else
  (some (S16, 1))))
  else
  (b2 (rec S2 (x1 + 1)) fun S6 r5 =>
  if r5 = 0 then
  (some (S6, 0))
  else
  (bd (fX3_write N S6 10019) fun S9 =>
  some (S9, 1))))
  else
  (some (S, 0))
def fX3_readUnit_b (N : Nat) (rec : SS → Int32 → Option (SS × Int32)) (S : SS) (p1 : Int32) : Option (SS × Int32) := b2 (fX9_sign N S) fun S3 r2 =>
  if r2 = 33 then
  (fX3_readUnit_j42 N rec p1 r2 S3)
  else
  (if r2 = 40 then
  (fX3_readUnit_j42 N rec p1 r2 S3)
  else
  (b2 (fX3_readSum N 9 S3 p1) fun S8 r7 =>
  if r7 = 0 then
  (some (S8, 0))
  else
  (b2 (fX3_readComparison N S8 p1) fun S12 r11 =>
  if r11 = 0 then
  (some (S12, 0))
  else
  (some (S12, 1)))))
def fX3_readUnit (N : Nat) : Nat → SS → Int32 → Option (SS × Int32)
  | 0, _, _ => none
  | d + 1, S, p1 => fX3_readUnit_b N (fX3_readUnit N d) S p1
set_option maxHeartbeats 4000000 in
set_option maxRecDepth 100000 in
theorem kX3_readUnit_b {l : Launch} {D : va_G} {dA : Nat → ClassId} {ad : Nat → Nat} {t1 t2 : Nat} {N : Nat} {rec : SS → Int32 → Option (SS × Int32)} {F L : Nat} (hrec : ∀ {S T : SS} {o : Nat → Int64} {p1 : Int32} {r : Int32} {S' : SS}, rec S p1 = some (S', r) → KI l D dA ad t1 t2 yX3_readUnit cX3_readUnit 3 .boolean { frames := F, cells := 0, slots := 0, locals := L } [.ref (ad 12), .int p1] S T o r S' T) {S T : SS} {o : Nat → Int64} {p1 : Int32} {r : Int32} {S' : SS} (hR : fX3_readUnit_b N rec S p1 = some (S', r)) : KI l D dA ad t1 t2 yX3_readUnit cX3_readUnit 3 .boolean { frames := F + 49, cells := 0, slots := 0, locals := L + 1081 } [.ref (ad 12), .int p1] S T o r S' T := by
  intro sz
  refine en_ (plainFor_of_name (by decide)) (Nat.le_of_ble_eq_true rfl) ?_
  intro p ev s m args below meth c QQ hQ hsz X hr hlk w ls hl
  have hx := X.1
  have hb := X.2.1
  have J42 : ∀ (x1 : Int32) (x2 : Int32) (S : SS), fX3_readUnit_j42 N rec x1 x2 S = some (S', r) → WAT p l ev ({ frames := F + 49, cells := 0, slots := 0, locals := L + 1081 } : Room) s m args below meth c QQ 3 D dA ad t1 t2 S T o 42 [(0, .ref (ad 12)), (1, .int x1), (2, .int x2)] [] := by
    intro x1 x2 S hR H locs ls w hl
    unfold fX3_readUnit_j42 at hR
    refine lv_iload_n hx hb dX3_readUnit_42 rfl (lv_at hl 1 rfl) ?_
    refine lv_bipush (v := 6) hx hb dX3_readUnit_43 (by decide) ?_
    refine lv_icmp_lt (tgt := 50) hx hb dX3_readUnit_45 (by decide) (fun c1 => ?_) (fun c1 => ?_)
    · rw [if_pos c1] at hR
      refine lv_aload_n hx hb dX3_readUnit_50 rfl (lv_at hl 0 rfl) ?_
      refine gX3_tape X w lfX3_15 dX3_readUnit_51 ?_
      refine lv_dup hx hb dX3_readUnit_54 rfl ?_
      refine gX9_at X w lfX3_23 dX3_readUnit_55 ?_
      refine lv_iconst (v := 1) hx hb dX3_readUnit_58 (by decide) ?_
      refine lv_iadd hx hb dX3_readUnit_59 ?_
      obtain ⟨S2, eS2, hR⟩ := lt_e hR
      refine pX9_at X w lfX3_23 dX3_readUnit_60 (fun H locs w => ?_)
      rw [← eS2] at w
      refine lv_iload_n hx hb dX3_readUnit_63 rfl (lv_at hl 2 rfl) ?_
      refine lv_bipush (v := 40) hx hb dX3_readUnit_64 (by decide) ?_
      refine lv_icmp_ne (tgt := 98) hx hb dX3_readUnit_66 (by decide) (fun c3 => ?_) (fun c3 => ?_)
      · rw [if_neg c3] at hR
        refine lv_aload_n hx hb dX3_readUnit_98 rfl (lv_at hl 0 rfl) ?_
        refine lv_iload_n hx hb dX3_readUnit_99 rfl (lv_at hl 1 rfl) ?_
        refine lv_iconst (v := 1) hx hb dX3_readUnit_100 (by decide) ?_
        refine lv_iadd hx hb dX3_readUnit_101 ?_
        obtain ⟨S6, r5, h4, hR⟩ := b2_e hR
        refine cVi (k := 12) (As := [.int (x1 + 1)]) (rest := []) X hl.1 w okX3_readUnit obX3 rfl lmX3_66 (hrec h4) ⟨by show _ ≤ F + 49; dsimp only; omega, by show _ ≤ L + 1081; simp only [List.map, Value.category, List.sum_cons, List.sum_nil, Nat.add_assoc]; omega⟩ ⟨rfl, rfl⟩ ⟨Nat.zero_le _, Nat.zero_le _⟩ rfl rfl (Nat.le_of_ble_eq_true rfl) dX3_readUnit_102 (fun H locs zr5 w => ?_)
        refine lv_if_ne (tgt := 110) hx hb dX3_readUnit_105 (by decide) (fun c7 => ?_) (fun c7 => ?_)
        · rw [if_neg c7] at hR
          refine lv_aload_n hx hb dX3_readUnit_110 rfl (lv_at hl 0 rfl) ?_
          refine lv_sipush (v := 10019) hx hb dX3_readUnit_111 (by decide) ?_
          obtain ⟨S9, h8, hR⟩ := bd_e hR
          refine cVv (k := 12) (As := [.int 10019]) (rest := []) X hl.1 w okX3_write obX3 rfl lmX3_52 (kX3_write h8) ⟨by show _ ≤ F + 49; dsimp only; omega, by show _ ≤ L + 1081; simp only [List.map, Value.category, List.sum_cons, List.sum_nil, Nat.add_assoc]; omega⟩ ⟨rfl, rfl⟩ ⟨Nat.zero_le _, Nat.zero_le _⟩ rfl rfl (Nat.le_of_ble_eq_true rfl) dX3_readUnit_114 (fun H locs w => ?_)
          refine lv_iconst (v := 1) hx hb dX3_readUnit_117 (by decide) ?_
          rw [hQ]
          exact rt_i X hr hlk w hsz rfl (lf2 hR).1 rfl (lf2 hR).2 dX3_readUnit_118
        · rw [if_pos c7] at hR
          refine lv_iconst (v := 0) hx hb dX3_readUnit_108 (by decide) ?_
          rw [hQ]
          exact rt_i X hr hlk w hsz rfl (lf2 hR).1 rfl (lf2 hR).2 dX3_readUnit_109
      · rw [if_pos c3] at hR
        refine lv_aload_n hx hb dX3_readUnit_69 rfl (lv_at hl 0 rfl) ?_
        refine lv_iload_n hx hb dX3_readUnit_70 rfl (lv_at hl 1 rfl) ?_
        refine lv_iconst (v := 1) hx hb dX3_readUnit_71 (by decide) ?_
        refine lv_iadd hx hb dX3_readUnit_72 ?_
        refine lv_iconst (v := 0) hx hb dX3_readUnit_73 (by decide) ?_
        obtain ⟨S12, r11, h10, hR⟩ := b2_e hR
        refine cVi (k := 12) (As := [.int (x1 + 1), .int 0]) (rest := []) X hl.1 w okX3_readCondition obX3 rfl lmX3_56 (kX3_readCondition hrec h10) ⟨by show _ ≤ F + 49; dsimp only; omega, by show _ ≤ L + 1081; simp only [List.map, Value.category, List.sum_cons, List.sum_nil, Nat.add_assoc]; omega⟩ ⟨rfl, rfl⟩ ⟨Nat.zero_le _, Nat.zero_le _⟩ rfl rfl (Nat.le_of_ble_eq_true rfl) dX3_readUnit_74 (fun H locs zr11 w => ?_)
        refine lv_if_eq (tgt := 96) hx hb dX3_readUnit_77 (by decide) (fun c13 => ?_) (fun c13 => ?_)
        · rw [if_pos c13] at hR
          refine lv_iconst (v := 0) hx hb dX3_readUnit_96 (by decide) ?_
          rw [hQ]
          exact rt_i X hr hlk w hsz rfl (lf2 hR).1 rfl (lf2 hR).2 dX3_readUnit_97
        · rw [if_neg c13] at hR
          refine lv_aload_n hx hb dX3_readUnit_80 rfl (lv_at hl 0 rfl) ?_
          refine gX3_tape X w lfX3_15 dX3_readUnit_81 ?_
          refine lv_bipush (v := 41) hx hb dX3_readUnit_84 (by decide) ?_
          obtain ⟨S16, r15, h14, hR⟩ := b2_e hR
          refine cVi (k := 1) (As := [.int 41]) (rest := []) X hl.1 w okX9_take obX9 rfl lmX3_36 (kX9_take h14) ⟨by show _ ≤ F + 49; dsimp only; omega, by show _ ≤ L + 1081; simp only [List.map, Value.category, List.sum_cons, List.sum_nil, Nat.add_assoc]; omega⟩ ⟨rfl, rfl⟩ ⟨Nat.zero_le _, Nat.zero_le _⟩ rfl rfl (Nat.le_of_ble_eq_true rfl) dX3_readUnit_86 (fun H locs zr15 w => ?_)
          refine lv_if_eq (tgt := 96) hx hb dX3_readUnit_89 (by decide) (fun c17 => ?_) (fun c17 => ?_)
          · rw [if_pos c17] at hR
            refine lv_iconst (v := 0) hx hb dX3_readUnit_96 (by decide) ?_
            rw [hQ]
            exact rt_i X hr hlk w hsz rfl (lf2 hR).1 rfl (lf2 hR).2 dX3_readUnit_97
          · rw [if_neg c17] at hR
            refine lv_iconst (v := 1) hx hb dX3_readUnit_92 (by decide) ?_
            refine lv_goto (tgt := 97) hx hb dX3_readUnit_93 (by decide) ?_
            rw [hQ]
            exact rt_i X hr hlk w hsz rfl (lf2 hR).1 rfl (lf2 hR).2 dX3_readUnit_97
    · rw [if_neg c1] at hR
      refine lv_iconst (v := 0) hx hb dX3_readUnit_48 (by decide) ?_
      rw [hQ]
      exact rt_i X hr hlk w hsz rfl (lf2 hR).1 rfl (lf2 hR).2 dX3_readUnit_49
  have hl : lv_has ls 3 [(0, .ref (ad 12)), (1, .int p1)] := hl
  unfold fX3_readUnit_b at hR
  refine lv_aload_n hx hb dX3_readUnit_0 rfl (lv_at hl 0 rfl) ?_
  refine gX3_tape X w lfX3_15 dX3_readUnit_1 ?_
  obtain ⟨S3, r2, h1, hR⟩ := b2_e hR
  refine cVi (k := 1) (As := []) (rest := []) X hl.1 w okX9_sign obX9 rfl lmX3_32 (kX9_sign h1) ⟨by show _ ≤ F + 49; dsimp only; omega, by show _ ≤ L + 1081; simp only [List.map, Value.category, List.sum_cons, List.sum_nil, Nat.add_assoc]; omega⟩ ⟨rfl, rfl⟩ ⟨Nat.zero_le _, Nat.zero_le _⟩ rfl rfl (Nat.le_of_ble_eq_true rfl) dX3_readUnit_4 (fun H locs zr2 w => ?_)
  refine lv_istore_n (lv' := [(2, .int r2), (0, .ref (ad 12)), (1, .int p1)]) hx hb dX3_readUnit_7 rfl hl (by decide) rfl (fun ls hl => ?_)
  refine lv_iload_n hx hb dX3_readUnit_8 rfl (lv_at hl 0 rfl) ?_
  refine lv_bipush (v := 33) hx hb dX3_readUnit_9 (by decide) ?_
  refine lv_icmp_eq (tgt := 42) hx hb dX3_readUnit_11 (by decide) (fun c4 => ?_) (fun c4 => ?_)
  · rw [if_pos c4] at hR
    exact J42 p1 r2 S3 hR _ _ _ w (lv_sub hl [1, 2, 0] rfl)
  · rw [if_neg c4] at hR
    refine lv_iload_n hx hb dX3_readUnit_14 rfl (lv_at hl 0 rfl) ?_
    refine lv_bipush (v := 40) hx hb dX3_readUnit_15 (by decide) ?_
    refine lv_icmp_eq (tgt := 42) hx hb dX3_readUnit_17 (by decide) (fun c5 => ?_) (fun c5 => ?_)
    · rw [if_pos c5] at hR
      exact J42 p1 r2 S3 hR _ _ _ w (lv_sub hl [1, 2, 0] rfl)
    · rw [if_neg c5] at hR
      refine lv_aload_n hx hb dX3_readUnit_20 rfl (lv_at hl 1 rfl) ?_
      refine lv_iload_n hx hb dX3_readUnit_21 rfl (lv_at hl 2 rfl) ?_
      obtain ⟨S8, r7, h6, hR⟩ := b2_e hR
      refine cVi (k := 12) (As := [.int p1]) (rest := []) X hl.1 w okX3_readSum obX3 rfl lmX3_40 (kX3_readSum 9 h6) ⟨by show _ ≤ F + 49; dsimp only; omega, by show _ ≤ L + 1081; simp only [List.map, Value.category, List.sum_cons, List.sum_nil, Nat.add_assoc]; omega⟩ ⟨rfl, rfl⟩ ⟨Nat.zero_le _, Nat.zero_le _⟩ rfl rfl (Nat.le_of_ble_eq_true rfl) dX3_readUnit_22 (fun H locs zr7 w => ?_)
      refine lv_if_eq (tgt := 40) hx hb dX3_readUnit_25 (by decide) (fun c9 => ?_) (fun c9 => ?_)
      · rw [if_pos c9] at hR
        refine lv_iconst (v := 0) hx hb dX3_readUnit_40 (by decide) ?_
        rw [hQ]
        exact rt_i X hr hlk w hsz rfl (lf2 hR).1 rfl (lf2 hR).2 dX3_readUnit_41
      · rw [if_neg c9] at hR
        refine lv_aload_n hx hb dX3_readUnit_28 rfl (lv_at hl 1 rfl) ?_
        refine lv_iload_n hx hb dX3_readUnit_29 rfl (lv_at hl 2 rfl) ?_
        obtain ⟨S12, r11, h10, hR⟩ := b2_e hR
        refine cVi (k := 12) (As := [.int p1]) (rest := []) X hl.1 w okX3_readComparison obX3 rfl lmX3_63 (kX3_readComparison h10) ⟨by show _ ≤ F + 49; dsimp only; omega, by show _ ≤ L + 1081; simp only [List.map, Value.category, List.sum_cons, List.sum_nil, Nat.add_assoc]; omega⟩ ⟨rfl, rfl⟩ ⟨Nat.zero_le _, Nat.zero_le _⟩ rfl rfl (Nat.le_of_ble_eq_true rfl) dX3_readUnit_30 (fun H locs zr11 w => ?_)
        refine lv_if_eq (tgt := 40) hx hb dX3_readUnit_33 (by decide) (fun c13 => ?_) (fun c13 => ?_)
        · rw [if_pos c13] at hR
          refine lv_iconst (v := 0) hx hb dX3_readUnit_40 (by decide) ?_
          rw [hQ]
          exact rt_i X hr hlk w hsz rfl (lf2 hR).1 rfl (lf2 hR).2 dX3_readUnit_41
        · rw [if_neg c13] at hR
          refine lv_iconst (v := 1) hx hb dX3_readUnit_36 (by decide) ?_
          refine lv_goto (tgt := 41) hx hb dX3_readUnit_37 (by decide) ?_
          rw [hQ]
          exact rt_i X hr hlk w hsz rfl (lf2 hR).1 rfl (lf2 hR).2 dX3_readUnit_41
theorem kX3_readUnit {l : Launch} {D : va_G} {dA : Nat → ClassId} {ad : Nat → Nat} {t1 t2 : Nat} {N : Nat} (d : Nat) : ∀ {S T : SS} {o : Nat → Int64} {p1 : Int32} {r : Int32} {S' : SS}, fX3_readUnit N d S p1 = some (S', r) → KI l D dA ad t1 t2 yX3_readUnit cX3_readUnit 3 .boolean { frames := 49 * d, cells := 0, slots := 0, locals := 1081 * d } [.ref (ad 12), .int p1] S T o r S' T := by
  induction d with
  | zero =>
    intro S T o p1 r S' hR
    exact nomatch hR
  | succ d ih =>
    intro S T o p1 r S' hR
    exact kX3_readUnit_b ih hR
/- LooseEnds$LawReader.readConditioned(Z)Z -/
def fX3_readConditioned (N : Nat) (S : SS) (p1 : Int32) : Option (SS × Int32) := b2 (fX3_readCondition N (fX3_readUnit N 9) S 0 p1) fun S3 r2 =>
  if r2 = 0 then
  (some (S3, 0))
  else
  (b2 (fX9_take N S3 63) fun S7 r6 =>
  if r6 = 0 then
  (some (S7, 0))
  else
  (lt (gi S7 12 2) fun v9 =>
  bd (fX3_write N S7 20000) fun S11 =>
  b2 (fX3_readSum N 9 S11 0) fun S14 r13 =>
  if r13 = 0 then
  (some (S14, 0))
  else
  (bd (fX3_write N S14 10020) fun S17 =>
  if 240 ≤ v9 then
  (some (S17, 1))
  else
  (ck (inb v9 240) <|
  lt (pa S17 13 v9 (20000 + (gi S17 12 2))) fun S20 =>
  some (S20, 1)))))
set_option maxHeartbeats 4000000 in
set_option maxRecDepth 100000 in
theorem kX3_readConditioned {l : Launch} {D : va_G} {dA : Nat → ClassId} {ad : Nat → Nat} {t1 t2 : Nat} {N : Nat} {S T : SS} {o : Nat → Int64} {p1 : Int32} {r : Int32} {S' : SS} (hR : fX3_readConditioned N S p1 = some (S', r)) : KI l D dA ad t1 t2 yX3_readConditioned cX3_readConditioned 3 .boolean { frames := 490, cells := 0, slots := 0, locals := 10810 } [.ref (ad 12), .int p1] S T o r S' T := by
  intro sz
  refine en_ (plainFor_of_name (by decide)) (Nat.le_of_ble_eq_true rfl) ?_
  intro p ev s m args below meth c QQ hQ hsz X hr hlk w ls hl
  have hx := X.1
  have hb := X.2.1
  have hl : lv_has ls 3 [(0, .ref (ad 12)), (1, .int p1)] := hl
  unfold fX3_readConditioned at hR
  refine lv_aload_n hx hb dX3_readConditioned_0 rfl (lv_at hl 0 rfl) ?_
  refine lv_iconst (v := 0) hx hb dX3_readConditioned_1 (by decide) ?_
  refine lv_iload_n hx hb dX3_readConditioned_2 rfl (lv_at hl 1 rfl) ?_
  obtain ⟨S3, r2, h1, hR⟩ := b2_e hR
  refine cVi (k := 12) (As := [.int 0, .int p1]) (rest := []) X hl.1 w okX3_readCondition obX3 rfl lmX3_56 (kX3_readCondition (kX3_readUnit 9) h1) ⟨Nat.le_of_ble_eq_true rfl, Nat.le_of_ble_eq_true rfl⟩ ⟨rfl, rfl⟩ ⟨Nat.zero_le _, Nat.zero_le _⟩ rfl rfl (Nat.le_of_ble_eq_true rfl) dX3_readConditioned_3 (fun H locs zr2 w => ?_)
  refine lv_if_eq (tgt := 21) hx hb dX3_readConditioned_6 (by decide) (fun c4 => ?_) (fun c4 => ?_)
  · rw [if_pos c4] at hR
    refine lv_iconst (v := 0) hx hb dX3_readConditioned_21 (by decide) ?_
    rw [hQ]
    exact rt_i X hr hlk w hsz rfl (lf2 hR).1 rfl (lf2 hR).2 dX3_readConditioned_22
  · rw [if_neg c4] at hR
    refine lv_aload_n hx hb dX3_readConditioned_9 rfl (lv_at hl 0 rfl) ?_
    refine gX3_tape X w lfX3_15 dX3_readConditioned_10 ?_
    refine lv_bipush (v := 63) hx hb dX3_readConditioned_13 (by decide) ?_
    obtain ⟨S7, r6, h5, hR⟩ := b2_e hR
    refine cVi (k := 1) (As := [.int 63]) (rest := []) X hl.1 w okX9_take obX9 rfl lmX3_36 (kX9_take h5) ⟨Nat.le_of_ble_eq_true rfl, Nat.le_of_ble_eq_true rfl⟩ ⟨rfl, rfl⟩ ⟨Nat.zero_le _, Nat.zero_le _⟩ rfl rfl (Nat.le_of_ble_eq_true rfl) dX3_readConditioned_15 (fun H locs zr6 w => ?_)
    refine lv_if_ne (tgt := 23) hx hb dX3_readConditioned_18 (by decide) (fun c8 => ?_) (fun c8 => ?_)
    · rw [if_neg c8] at hR
      refine lv_aload_n hx hb dX3_readConditioned_23 rfl (lv_at hl 0 rfl) ?_
      refine gX3_size X w lfX3_19 dX3_readConditioned_24 ?_
      obtain ⟨v9, ev9, hR⟩ := lt_e hR
      refine nm_i ev9 ?_
      refine lv_istore_n (lv' := [(2, .int v9), (0, .ref (ad 12)), (1, .int p1)]) hx hb dX3_readConditioned_27 rfl hl (by decide) rfl (fun ls hl => ?_)
      refine lv_aload_n hx hb dX3_readConditioned_28 rfl (lv_at hl 1 rfl) ?_
      refine lv_sipush (v := 20000) hx hb dX3_readConditioned_29 (by decide) ?_
      obtain ⟨S11, h10, hR⟩ := bd_e hR
      refine cVv (k := 12) (As := [.int 20000]) (rest := []) X hl.1 w okX3_write obX3 rfl lmX3_52 (kX3_write h10) ⟨Nat.le_of_ble_eq_true rfl, Nat.le_of_ble_eq_true rfl⟩ ⟨rfl, rfl⟩ ⟨Nat.zero_le _, Nat.zero_le _⟩ rfl rfl (Nat.le_of_ble_eq_true rfl) dX3_readConditioned_32 (fun H locs w => ?_)
      refine lv_aload_n hx hb dX3_readConditioned_35 rfl (lv_at hl 1 rfl) ?_
      refine lv_iconst (v := 0) hx hb dX3_readConditioned_36 (by decide) ?_
      obtain ⟨S14, r13, h12, hR⟩ := b2_e hR
      refine cVi (k := 12) (As := [.int 0]) (rest := []) X hl.1 w okX3_readSum obX3 rfl lmX3_40 (kX3_readSum 9 h12) ⟨Nat.le_of_ble_eq_true rfl, Nat.le_of_ble_eq_true rfl⟩ ⟨rfl, rfl⟩ ⟨Nat.zero_le _, Nat.zero_le _⟩ rfl rfl (Nat.le_of_ble_eq_true rfl) dX3_readConditioned_37 (fun H locs zr13 w => ?_)
      refine lv_if_ne (tgt := 45) hx hb dX3_readConditioned_40 (by decide) (fun c15 => ?_) (fun c15 => ?_)
      · rw [if_neg c15] at hR
        refine lv_aload_n hx hb dX3_readConditioned_45 rfl (lv_at hl 1 rfl) ?_
        refine lv_sipush (v := 10020) hx hb dX3_readConditioned_46 (by decide) ?_
        obtain ⟨S17, h16, hR⟩ := bd_e hR
        refine cVv (k := 12) (As := [.int 10020]) (rest := []) X hl.1 w okX3_write obX3 rfl lmX3_52 (kX3_write h16) ⟨Nat.le_of_ble_eq_true rfl, Nat.le_of_ble_eq_true rfl⟩ ⟨rfl, rfl⟩ ⟨Nat.zero_le _, Nat.zero_le _⟩ rfl rfl (Nat.le_of_ble_eq_true rfl) dX3_readConditioned_49 (fun H locs w => ?_)
        refine lv_iload_n hx hb dX3_readConditioned_52 rfl (lv_at hl 0 rfl) ?_
        refine lv_aload_n hx hb dX3_readConditioned_53 rfl (lv_at hl 1 rfl) ?_
        refine gX3_steps X w lfX3_9 dX3_readConditioned_54 ?_
        refine lenS rfl (by decide) X w (v := 240) (by rw [show aln _ _ = 240 from rfl]; rfl) dX3_readConditioned_57 ?_
        refine lv_icmp_ge (tgt := 75) hx hb dX3_readConditioned_58 (by decide) (fun c18 => ?_) (fun c18 => ?_)
        · rw [if_pos c18] at hR
          refine lv_iconst (v := 1) hx hb dX3_readConditioned_75 (by decide) ?_
          rw [hQ]
          exact rt_i X hr hlk w hsz rfl (lf2 hR).1 rfl (lf2 hR).2 dX3_readConditioned_76
        · rw [if_neg c18] at hR
          refine lv_aload_n hx hb dX3_readConditioned_61 rfl (lv_at hl 1 rfl) ?_
          refine gX3_steps X w lfX3_9 dX3_readConditioned_62 ?_
          refine lv_iload_n hx hb dX3_readConditioned_65 rfl (lv_at hl 0 rfl) ?_
          refine lv_sipush (v := 20000) hx hb dX3_readConditioned_66 (by decide) ?_
          refine lv_aload_n hx hb dX3_readConditioned_69 rfl (lv_at hl 1 rfl) ?_
          refine gX3_size X w lfX3_19 dX3_readConditioned_70 ?_
          refine lv_iadd hx hb dX3_readConditioned_73 ?_
          obtain ⟨g19, hR⟩ := ck_e hR
          obtain ⟨S20, eS20, hR⟩ := lt_e hR
          refine iasS (n := 240) rfl (by decide) X w rfl g19 dX3_readConditioned_74 (fun H locs w => ?_)
          rw [← eS20] at w
          refine lv_iconst (v := 1) hx hb dX3_readConditioned_75 (by decide) ?_
          rw [hQ]
          exact rt_i X hr hlk w hsz rfl (lf2 hR).1 rfl (lf2 hR).2 dX3_readConditioned_76
      · rw [if_pos c15] at hR
        refine lv_iconst (v := 0) hx hb dX3_readConditioned_43 (by decide) ?_
        rw [hQ]
        exact rt_i X hr hlk w hsz rfl (lf2 hR).1 rfl (lf2 hR).2 dX3_readConditioned_44
    · rw [if_pos c8] at hR
      refine lv_iconst (v := 0) hx hb dX3_readConditioned_21 (by decide) ?_
      rw [hQ]
      exact rt_i X hr hlk w hsz rfl (lf2 hR).1 rfl (lf2 hR).2 dX3_readConditioned_22
/- LooseEnds$LawReader.readClause()Z -/
def fX3_readClause_j83 (N : Nat) (x2 : Int32) (S : SS) : Option (SS × Int32) := b2 (fX3_readConditioned N S x2) fun S3 r2 =>
  some (S3, r2)
def fX3_readClause_j66 (N : Nat) (x2 : Int32) (S : SS) : Option (SS × Int32) := if x2 = 0 then
  (fX3_readClause_j83 N x2 S)
  else
  (b2 (fX9_sign N S) fun S4 r3 =>
  bd (fX3_isComparison N r3) fun r6 =>
  if r6 = 0 then
  (bd (fX3_write N S4 10020) fun S9 =>
  some (S9, 1))
  else
  (fX3_readClause_j83 N x2 S4))
def fX3_readClause_j51 (N : Nat) (y0 : Int32) (S : SS) : Option (SS × Int32) := if y0 = 0 then
  (fX3_readClause_j66 N y0 S)
  else
  (b2 (fX3_readSum N 9 S 0) fun S4 r3 =>
  if r3 = 0 then
  (some (S4, 0))
  else
  (fX3_readClause_j66 N y0 S4))
def fX3_readClause_j50 (N : Nat) (S : SS) : Option (SS × Int32) := fX3_readClause_j51 N 0 S
def fX3_readClause (N : Nat) (S : SS) : Option (SS × Int32) := b2 (fX9_take N S 121) fun S3 r2 =>
  if r2 = 0 then
  (some (S3, 0))
  else
  (b2 (fX9_take N S3 58) fun S7 r6 =>
  if r6 = 0 then
  (some (S7, 0))
  else
  (b2 (fX9_sign N S7) fun S11 r10 =>
  if r10 = 33 then
  (fX3_readClause_j50 N S11)
  else
  (if r10 = 40 then
  (fX3_readClause_j50 N S11)
  else
  (fX3_readClause_j51 N 1 S11))))
set_option maxHeartbeats 4000000 in
set_option maxRecDepth 100000 in
theorem kX3_readClause {l : Launch} {D : va_G} {dA : Nat → ClassId} {ad : Nat → Nat} {t1 t2 : Nat} {N : Nat} {S T : SS} {o : Nat → Int64} {r : Int32} {S' : SS} (hR : fX3_readClause N S = some (S', r)) : KI l D dA ad t1 t2 yX3_readClause cX3_readClause 3 .boolean { frames := 491, cells := 0, slots := 0, locals := 10832 } [.ref (ad 12)] S T o r S' T := by
  intro sz
  refine en_ (plainFor_of_name (by decide)) (Nat.le_of_ble_eq_true rfl) ?_
  intro p ev s m args below meth c QQ hQ hsz X hr hlk w ls hl
  have hx := X.1
  have hb := X.2.1
  have J83 : ∀ (x2 : Int32) (S : SS), fX3_readClause_j83 N x2 S = some (S', r) → WAT p l ev ({ frames := 491, cells := 0, slots := 0, locals := 10832 } : Room) s m args below meth c QQ 3 D dA ad t1 t2 S T o 83 [(0, .ref (ad 12)), (2, .int x2)] [] := by
    intro x2 S hR H locs ls w hl
    unfold fX3_readClause_j83 at hR
    refine lv_aload_n hx hb dX3_readClause_83 rfl (lv_at hl 0 rfl) ?_
    refine lv_iload_n hx hb dX3_readClause_84 rfl (lv_at hl 1 rfl) ?_
    obtain ⟨S3, r2, h1, hR⟩ := b2_e hR
    refine cVi (k := 12) (As := [.int x2]) (rest := []) X hl.1 w okX3_readConditioned obX3 rfl lmX3_46 (kX3_readConditioned h1) ⟨Nat.le_of_ble_eq_true rfl, Nat.le_of_ble_eq_true rfl⟩ ⟨rfl, rfl⟩ ⟨Nat.zero_le _, Nat.zero_le _⟩ rfl rfl (Nat.le_of_ble_eq_true rfl) dX3_readClause_85 (fun H locs zr2 w => ?_)
    rw [hQ]
    exact rt_i X hr hlk w hsz zr2 (lf2 hR).1 rfl (lf2 hR).2 dX3_readClause_88
  have J66 : ∀ (x2 : Int32) (S : SS), fX3_readClause_j66 N x2 S = some (S', r) → WAT p l ev ({ frames := 491, cells := 0, slots := 0, locals := 10832 } : Room) s m args below meth c QQ 3 D dA ad t1 t2 S T o 66 [(0, .ref (ad 12)), (2, .int x2)] [] := by
    intro x2 S hR H locs ls w hl
    unfold fX3_readClause_j66 at hR
    refine lv_iload_n hx hb dX3_readClause_66 rfl (lv_at hl 1 rfl) ?_
    refine lv_if_eq (tgt := 83) hx hb dX3_readClause_67 (by decide) (fun c1 => ?_) (fun c1 => ?_)
    · rw [if_pos c1] at hR
      exact J83 x2 S hR _ _ _ w (lv_sub hl [0, 1] rfl)
    · rw [if_neg c1] at hR
      refine lv_aload_n hx hb dX3_readClause_70 rfl (lv_at hl 0 rfl) ?_
      refine gX3_tape X w lfX3_15 dX3_readClause_71 ?_
      obtain ⟨S4, r3, h2, hR⟩ := b2_e hR
      refine cVi (k := 1) (As := []) (rest := []) X hl.1 w okX9_sign obX9 rfl lmX3_32 (kX9_sign h2) ⟨Nat.le_of_ble_eq_true rfl, Nat.le_of_ble_eq_true rfl⟩ ⟨rfl, rfl⟩ ⟨Nat.zero_le _, Nat.zero_le _⟩ rfl rfl (Nat.le_of_ble_eq_true rfl) dX3_readClause_74 (fun H locs zr3 w => ?_)
      obtain ⟨r6, h5, hR⟩ := bd_e hR
      refine cSi (As := [.int r3]) (rest := []) X hl.1 w okX3_isComparison lmX3_43 (kX3_isComparison h5) ⟨Nat.le_of_ble_eq_true rfl, Nat.le_of_ble_eq_true rfl⟩ ⟨rfl, rfl⟩ ⟨Nat.zero_le _, Nat.zero_le _⟩ rfl rfl (Nat.le_of_ble_eq_true rfl) dX3_readClause_77 (fun H locs zr6 w => ?_)
      refine lv_if_eq (tgt := 89) hx hb dX3_readClause_80 (by decide) (fun c7 => ?_) (fun c7 => ?_)
      · rw [if_pos c7] at hR
        refine lv_aload_n hx hb dX3_readClause_89 rfl (lv_at hl 0 rfl) ?_
        refine lv_sipush (v := 10020) hx hb dX3_readClause_90 (by decide) ?_
        obtain ⟨S9, h8, hR⟩ := bd_e hR
        refine cVv (k := 12) (As := [.int 10020]) (rest := []) X hl.1 w okX3_write obX3 rfl lmX3_52 (kX3_write h8) ⟨Nat.le_of_ble_eq_true rfl, Nat.le_of_ble_eq_true rfl⟩ ⟨rfl, rfl⟩ ⟨Nat.zero_le _, Nat.zero_le _⟩ rfl rfl (Nat.le_of_ble_eq_true rfl) dX3_readClause_93 (fun H locs w => ?_)
        refine lv_iconst (v := 1) hx hb dX3_readClause_96 (by decide) ?_
        rw [hQ]
        exact rt_i X hr hlk w hsz rfl (lf2 hR).1 rfl (lf2 hR).2 dX3_readClause_97
      · rw [if_neg c7] at hR
        exact J83 x2 S4 hR _ _ _ w (lv_sub hl [0, 1] rfl)
  have J51 : ∀ (y0 : Int32) (S : SS), fX3_readClause_j51 N y0 S = some (S', r) → WAT p l ev ({ frames := 491, cells := 0, slots := 0, locals := 10832 } : Room) s m args below meth c QQ 3 D dA ad t1 t2 S T o 51 [(0, .ref (ad 12))] [.int y0] := by
    intro y0 S hR H locs ls w hl
    unfold fX3_readClause_j51 at hR
    refine lv_istore_n (lv' := [(2, .int y0), (0, .ref (ad 12))]) hx hb dX3_readClause_51 rfl hl (by decide) rfl (fun ls hl => ?_)
    refine lv_iload_n hx hb dX3_readClause_52 rfl (lv_at hl 0 rfl) ?_
    refine lv_if_eq (tgt := 66) hx hb dX3_readClause_53 (by decide) (fun c1 => ?_) (fun c1 => ?_)
    · rw [if_pos c1] at hR
      exact J66 y0 S hR _ _ _ w (lv_sub hl [1, 0] rfl)
    · rw [if_neg c1] at hR
      refine lv_aload_n hx hb dX3_readClause_56 rfl (lv_at hl 1 rfl) ?_
      refine lv_iconst (v := 0) hx hb dX3_readClause_57 (by decide) ?_
      obtain ⟨S4, r3, h2, hR⟩ := b2_e hR
      refine cVi (k := 12) (As := [.int 0]) (rest := []) X hl.1 w okX3_readSum obX3 rfl lmX3_40 (kX3_readSum 9 h2) ⟨Nat.le_of_ble_eq_true rfl, Nat.le_of_ble_eq_true rfl⟩ ⟨rfl, rfl⟩ ⟨Nat.zero_le _, Nat.zero_le _⟩ rfl rfl (Nat.le_of_ble_eq_true rfl) dX3_readClause_58 (fun H locs zr3 w => ?_)
      refine lv_if_ne (tgt := 66) hx hb dX3_readClause_61 (by decide) (fun c5 => ?_) (fun c5 => ?_)
      · rw [if_neg c5] at hR
        exact J66 y0 S4 hR _ _ _ w (lv_sub hl [1, 0] rfl)
      · rw [if_pos c5] at hR
        refine lv_iconst (v := 0) hx hb dX3_readClause_64 (by decide) ?_
        rw [hQ]
        exact rt_i X hr hlk w hsz rfl (lf2 hR).1 rfl (lf2 hR).2 dX3_readClause_65
  have J50 : ∀ (S : SS), fX3_readClause_j50 N S = some (S', r) → WAT p l ev ({ frames := 491, cells := 0, slots := 0, locals := 10832 } : Room) s m args below meth c QQ 3 D dA ad t1 t2 S T o 50 [(0, .ref (ad 12))] [] := by
    intro S hR H locs ls w hl
    unfold fX3_readClause_j50 at hR
    refine lv_iconst (v := 0) hx hb dX3_readClause_50 (by decide) ?_
    exact J51 0 S hR _ _ _ w (lv_sub hl [0] rfl)
  have hl : lv_has ls 3 [(0, .ref (ad 12))] := hl
  unfold fX3_readClause at hR
  refine lv_aload_n hx hb dX3_readClause_0 rfl (lv_at hl 0 rfl) ?_
  refine gX3_tape X w lfX3_15 dX3_readClause_1 ?_
  refine lv_bipush (v := 121) hx hb dX3_readClause_4 (by decide) ?_
  obtain ⟨S3, r2, h1, hR⟩ := b2_e hR
  refine cVi (k := 1) (As := [.int 121]) (rest := []) X hl.1 w okX9_take obX9 rfl lmX3_36 (kX9_take h1) ⟨Nat.le_of_ble_eq_true rfl, Nat.le_of_ble_eq_true rfl⟩ ⟨rfl, rfl⟩ ⟨Nat.zero_le _, Nat.zero_le _⟩ rfl rfl (Nat.le_of_ble_eq_true rfl) dX3_readClause_6 (fun H locs zr2 w => ?_)
  refine lv_if_eq (tgt := 24) hx hb dX3_readClause_9 (by decide) (fun c4 => ?_) (fun c4 => ?_)
  · rw [if_pos c4] at hR
    refine lv_iconst (v := 0) hx hb dX3_readClause_24 (by decide) ?_
    rw [hQ]
    exact rt_i X hr hlk w hsz rfl (lf2 hR).1 rfl (lf2 hR).2 dX3_readClause_25
  · rw [if_neg c4] at hR
    refine lv_aload_n hx hb dX3_readClause_12 rfl (lv_at hl 0 rfl) ?_
    refine gX3_tape X w lfX3_15 dX3_readClause_13 ?_
    refine lv_bipush (v := 58) hx hb dX3_readClause_16 (by decide) ?_
    obtain ⟨S7, r6, h5, hR⟩ := b2_e hR
    refine cVi (k := 1) (As := [.int 58]) (rest := []) X hl.1 w okX9_take obX9 rfl lmX3_36 (kX9_take h5) ⟨Nat.le_of_ble_eq_true rfl, Nat.le_of_ble_eq_true rfl⟩ ⟨rfl, rfl⟩ ⟨Nat.zero_le _, Nat.zero_le _⟩ rfl rfl (Nat.le_of_ble_eq_true rfl) dX3_readClause_18 (fun H locs zr6 w => ?_)
    refine lv_if_ne (tgt := 26) hx hb dX3_readClause_21 (by decide) (fun c8 => ?_) (fun c8 => ?_)
    · rw [if_neg c8] at hR
      refine lv_aload_n hx hb dX3_readClause_26 rfl (lv_at hl 0 rfl) ?_
      refine gX3_tape X w lfX3_15 dX3_readClause_27 ?_
      obtain ⟨S11, r10, h9, hR⟩ := b2_e hR
      refine cVi (k := 1) (As := []) (rest := []) X hl.1 w okX9_sign obX9 rfl lmX3_32 (kX9_sign h9) ⟨Nat.le_of_ble_eq_true rfl, Nat.le_of_ble_eq_true rfl⟩ ⟨rfl, rfl⟩ ⟨Nat.zero_le _, Nat.zero_le _⟩ rfl rfl (Nat.le_of_ble_eq_true rfl) dX3_readClause_30 (fun H locs zr10 w => ?_)
      refine lv_istore_n (lv' := [(1, .int r10), (0, .ref (ad 12))]) hx hb dX3_readClause_33 rfl hl (by decide) rfl (fun ls hl => ?_)
      refine lv_iload_n hx hb dX3_readClause_34 rfl (lv_at hl 0 rfl) ?_
      refine lv_bipush (v := 33) hx hb dX3_readClause_35 (by decide) ?_
      refine lv_icmp_eq (tgt := 50) hx hb dX3_readClause_37 (by decide) (fun c12 => ?_) (fun c12 => ?_)
      · rw [if_pos c12] at hR
        exact J50 S11 hR _ _ _ w (lv_sub hl [1] rfl)
      · rw [if_neg c12] at hR
        refine lv_iload_n hx hb dX3_readClause_40 rfl (lv_at hl 0 rfl) ?_
        refine lv_bipush (v := 40) hx hb dX3_readClause_41 (by decide) ?_
        refine lv_icmp_eq (tgt := 50) hx hb dX3_readClause_43 (by decide) (fun c13 => ?_) (fun c13 => ?_)
        · rw [if_pos c13] at hR
          exact J50 S11 hR _ _ _ w (lv_sub hl [1] rfl)
        · rw [if_neg c13] at hR
          refine lv_iconst (v := 1) hx hb dX3_readClause_46 (by decide) ?_
          refine lv_goto (tgt := 51) hx hb dX3_readClause_47 (by decide) ?_
          exact J51 1 S11 hR _ _ _ w (lv_sub hl [1] rfl)
    · rw [if_pos c8] at hR
      refine lv_iconst (v := 0) hx hb dX3_readClause_24 (by decide) ?_
      rw [hQ]
      exact rt_i X hr hlk w hsz rfl (lf2 hR).1 rfl (lf2 hR).2 dX3_readClause_25
/- LooseEnds$LawReader.read()I -/
def fX3_read_l15 (N : Nat) : Nat → Int32 → SS → Option (SS × Int32)
  | 0, _, _ => none
  | n + 1, x1, S => if 240 < x1 then
  (some (S, gi S 1 2))
  else
  (b2 (fX3_readClause N S) fun S4 r3 =>
  if r3 = 0 then
  (some (S4, gi S4 1 2))
  else
  (b2 (fX9_sign N S4) fun S8 r7 =>
  if r7 = (-1) then
  (some (S8, (-1)))
  else
  (b2 (fX9_take N S8 59) fun S12 r11 =>
  if r11 = 0 then
  (some (S12, gi S12 1 2))
  else
  (lt (x1 + 1) fun v14 =>
  fX3_read_l15 N n v14 S12))))
def fX3_read (N : Nat) (S : SS) : Option (SS × Int32) := lt (pj S 12 2 0) fun S1 =>
  lt (pj S1 1 2 0) fun S2 =>
  fX3_read_l15 N N 0 S2
set_option maxHeartbeats 4000000 in
set_option maxRecDepth 100000 in
theorem kX3_read {l : Launch} {D : va_G} {dA : Nat → ClassId} {ad : Nat → Nat} {t1 t2 : Nat} {N : Nat} {S T : SS} {o : Nat → Int64} {r : Int32} {S' : SS} (hR : fX3_read N S = some (S', r)) : KI l D dA ad t1 t2 yX3_read cX3_read 2 .int { frames := 492, cells := 0, slots := 0, locals := 10854 } [.ref (ad 12)] S T o r S' T := by
  intro sz
  refine en_ (plainFor_of_name (by decide)) (Nat.le_of_ble_eq_true rfl) ?_
  intro p ev s m args below meth c QQ hQ hsz X hr hlk w ls hl
  have hx := X.1
  have hb := X.2.1
  have L15 : ∀ (n : Nat), ∀ (x1 : Int32) (S : SS), fX3_read_l15 N n x1 S = some (S', r) → WAT p l ev ({ frames := 492, cells := 0, slots := 0, locals := 10854 } : Room) s m args below meth c QQ 2 D dA ad t1 t2 S T o 15 [(0, .ref (ad 12)), (1, .int x1)] [] := by
    intro n
    induction n with
    | zero =>
      intro x1 S hR
      exact nomatch hR
    | succ n ih =>
      intro x1 S hR H locs ls w hl
      rw [fX3_read_l15] at hR
      refine lv_iload_n hx hb dX3_read_15 rfl (lv_at hl 1 rfl) ?_
      refine lv_sipush (v := 240) hx hb dX3_read_16 (by decide) ?_
      refine lv_icmp_gt (tgt := 76) hx hb dX3_read_19 (by decide) (fun c1 => ?_) (fun c1 => ?_)
      · rw [if_pos c1] at hR
        refine lv_aload_n hx hb dX3_read_76 rfl (lv_at hl 0 rfl) ?_
        refine gX3_tape X w lfX3_15 dX3_read_77 ?_
        refine gX9_at X w lfX3_23 dX3_read_80 ?_
        rw [hQ]
        exact rt_i X hr hlk w hsz rfl (lf2 hR).1 rfl (lf2 hR).2 dX3_read_83
      · rw [if_neg c1] at hR
        refine lv_aload_n hx hb dX3_read_22 rfl (lv_at hl 0 rfl) ?_
        obtain ⟨S4, r3, h2, hR⟩ := b2_e hR
        refine cVi (k := 12) (As := []) (rest := []) X hl.1 w okX3_readClause obX3 rfl lmX3_28 (kX3_readClause h2) ⟨Nat.le_of_ble_eq_true rfl, Nat.le_of_ble_eq_true rfl⟩ ⟨rfl, rfl⟩ ⟨Nat.zero_le _, Nat.zero_le _⟩ rfl rfl (Nat.le_of_ble_eq_true rfl) dX3_read_23 (fun H locs zr3 w => ?_)
        refine lv_if_ne (tgt := 37) hx hb dX3_read_26 (by decide) (fun c5 => ?_) (fun c5 => ?_)
        · rw [if_neg c5] at hR
          refine lv_aload_n hx hb dX3_read_37 rfl (lv_at hl 0 rfl) ?_
          refine gX3_tape X w lfX3_15 dX3_read_38 ?_
          obtain ⟨S8, r7, h6, hR⟩ := b2_e hR
          refine cVi (k := 1) (As := []) (rest := []) X hl.1 w okX9_sign obX9 rfl lmX3_32 (kX9_sign h6) ⟨Nat.le_of_ble_eq_true rfl, Nat.le_of_ble_eq_true rfl⟩ ⟨rfl, rfl⟩ ⟨Nat.zero_le _, Nat.zero_le _⟩ rfl rfl (Nat.le_of_ble_eq_true rfl) dX3_read_41 (fun H locs zr7 w => ?_)
          refine lv_iconst (v := -1) hx hb dX3_read_44 (by decide) ?_
          refine lv_icmp_ne (tgt := 50) hx hb dX3_read_45 (by decide) (fun c9 => ?_) (fun c9 => ?_)
          · rw [if_neg c9] at hR
            refine lv_aload_n hx hb dX3_read_50 rfl (lv_at hl 0 rfl) ?_
            refine gX3_tape X w lfX3_15 dX3_read_51 ?_
            refine lv_bipush (v := 59) hx hb dX3_read_54 (by decide) ?_
            obtain ⟨S12, r11, h10, hR⟩ := b2_e hR
            refine cVi (k := 1) (As := [.int 59]) (rest := []) X hl.1 w okX9_take obX9 rfl lmX3_36 (kX9_take h10) ⟨Nat.le_of_ble_eq_true rfl, Nat.le_of_ble_eq_true rfl⟩ ⟨rfl, rfl⟩ ⟨Nat.zero_le _, Nat.zero_le _⟩ rfl rfl (Nat.le_of_ble_eq_true rfl) dX3_read_56 (fun H locs zr11 w => ?_)
            refine lv_if_ne (tgt := 70) hx hb dX3_read_59 (by decide) (fun c13 => ?_) (fun c13 => ?_)
            · rw [if_neg c13] at hR
              obtain ⟨v14, ev14, hR⟩ := lt_e hR
              refine lv_iinc (v := v14) (lv' := [(1, .int v14), (0, .ref (ad 12))]) hx hb dX3_read_70 hl (k := 1) rfl (by rw [ev14]; rfl) (by decide) rfl (fun ls hl => ?_)
              refine lv_goto (tgt := 15) hx hb dX3_read_73 (by decide) ?_
              exact ih v14 S12 hR _ _ _ w (lv_sub hl [1, 0] rfl)
            · rw [if_pos c13] at hR
              refine lv_aload_n hx hb dX3_read_62 rfl (lv_at hl 0 rfl) ?_
              refine gX3_tape X w lfX3_15 dX3_read_63 ?_
              refine gX9_at X w lfX3_23 dX3_read_66 ?_
              rw [hQ]
              exact rt_i X hr hlk w hsz rfl (lf2 hR).1 rfl (lf2 hR).2 dX3_read_69
          · rw [if_pos c9] at hR
            refine lv_iconst (v := -1) hx hb dX3_read_48 (by decide) ?_
            rw [hQ]
            exact rt_i X hr hlk w hsz rfl (lf2 hR).1 rfl (lf2 hR).2 dX3_read_49
        · rw [if_pos c5] at hR
          refine lv_aload_n hx hb dX3_read_29 rfl (lv_at hl 0 rfl) ?_
          refine gX3_tape X w lfX3_15 dX3_read_30 ?_
          refine gX9_at X w lfX3_23 dX3_read_33 ?_
          rw [hQ]
          exact rt_i X hr hlk w hsz rfl (lf2 hR).1 rfl (lf2 hR).2 dX3_read_36
  have hl : lv_has ls 2 [(0, .ref (ad 12))] := hl
  unfold fX3_read at hR
  refine lv_aload_n hx hb dX3_read_0 rfl (lv_at hl 0 rfl) ?_
  refine lv_iconst (v := 0) hx hb dX3_read_1 (by decide) ?_
  obtain ⟨S1, eS1, hR⟩ := lt_e hR
  refine pX3_size X w lfX3_19 dX3_read_2 (fun H locs w => ?_)
  rw [← eS1] at w
  refine lv_aload_n hx hb dX3_read_5 rfl (lv_at hl 0 rfl) ?_
  refine gX3_tape X w lfX3_15 dX3_read_6 ?_
  refine lv_iconst (v := 0) hx hb dX3_read_9 (by decide) ?_
  obtain ⟨S2, eS2, hR⟩ := lt_e hR
  refine pX9_at X w lfX3_23 dX3_read_10 (fun H locs w => ?_)
  rw [← eS2] at w
  refine lv_iconst (v := 0) hx hb dX3_read_13 (by decide) ?_
  refine lv_istore_n (lv' := [(1, .int 0), (0, .ref (ad 12))]) hx hb dX3_read_14 rfl hl (by decide) rfl (fun ls hl => ?_)
  exact L15 N 0 S2 hR _ _ _ w (lv_sub hl [1, 0] rfl)
/- LooseEnds$Memory.forget()V -/
def fX4_forget (N : Nat) (S : SS) : Option (SS) := lt (pj S 23 6 0) fun S1 =>
  lt (pj S1 23 5 0) fun S2 =>
  lt (pj S2 23 4 0) fun S3 =>
  some S3
set_option maxHeartbeats 4000000 in
set_option maxRecDepth 100000 in
theorem kX4_forget {l : Launch} {D : va_G} {dA : Nat → ClassId} {ad : Nat → Nat} {t1 t2 : Nat} {N : Nat} {S T : SS} {o : Nat → Int64} {S' : SS} (hR : fX4_forget N S = some S') : KV l D dA ad t1 t2 yX4_forget cX4_forget 1 { frames := 0, cells := 0, slots := 0, locals := 0 } [.ref (ad 23)] S T o S' T := by
  intro sz
  refine en_ (plainFor_of_name (by decide)) (Nat.le_of_ble_eq_true rfl) ?_
  intro p ev s m args below meth c QQ hQ hsz X hr hlk w ls hl
  have hx := X.1
  have hb := X.2.1
  have hl : lv_has ls 1 [(0, .ref (ad 23))] := hl
  unfold fX4_forget at hR
  refine lv_aload_n hx hb dX4_forget_0 rfl (lv_at hl 0 rfl) ?_
  refine lv_iconst (v := 0) hx hb dX4_forget_1 (by decide) ?_
  obtain ⟨S1, eS1, hR⟩ := lt_e hR
  refine pX4_size X w lfX4_26 dX4_forget_2 (fun H locs w => ?_)
  rw [← eS1] at w
  refine lv_aload_n hx hb dX4_forget_5 rfl (lv_at hl 0 rfl) ?_
  refine lv_iconst (v := 0) hx hb dX4_forget_6 (by decide) ?_
  obtain ⟨S2, eS2, hR⟩ := lt_e hR
  refine pX4_next X w lfX4_30 dX4_forget_7 (fun H locs w => ?_)
  rw [← eS2] at w
  refine lv_aload_n hx hb dX4_forget_10 rfl (lv_at hl 0 rfl) ?_
  refine lv_iconst (v := 0) hx hb dX4_forget_11 (by decide) ?_
  obtain ⟨S3, eS3, hR⟩ := lt_e hR
  refine pX4_hasImage ⟨rfl, rfl⟩ X w lfX4_33 dX4_forget_12 (fun H locs w => ?_)
  rw [← eS3] at w
  rw [hQ]
  exact rt_v X hr hlk w hsz (lf1 hR) rfl dX4_forget_15
/- LooseEnds$State.writeTo([II)V -/
def fX8_writeTo (N : Nat) (S : SS) (k0 : Nat) (q1 : Nat) (p2 : Int32) : Option (SS) := if p2 < 0 then
  (some S)
  else
  (if p2 ≤ ((Int32.ofNat (aln S.2.2 q1)) - 33) then
  (ck (cpb 0 p2 7 7 (aln S.2.2 q1)) <|
  lt (cp S (k0 + 1) 0 q1 p2 7) fun S4 =>
  ck (cpb 0 (p2 + 7) 7 7 (aln S4.2.2 q1)) <|
  lt (cp S4 (k0 + 2) 0 q1 (p2 + 7) 7) fun S6 =>
  ck (cpb 0 (p2 + 14) 7 7 (aln S6.2.2 q1)) <|
  lt (cp S6 (k0 + 3) 0 q1 (p2 + 14) 7) fun S8 =>
  ck (cpb 0 (p2 + 21) 7 7 (aln S8.2.2 q1)) <|
  lt (cp S8 (k0 + 4) 0 q1 (p2 + 21) 7) fun S10 =>
  lt (p2 + 28) fun v11 =>
  ck (inb v11 (aln S10.2.2 q1)) <|
  lt (pa S10 q1 v11 (gi S10 k0 5)) fun S13 =>
  ck (inb (v11 + 1) (aln S13.2.2 q1)) <|
  lt (pa S13 q1 (v11 + 1) (gi S13 k0 6)) fun S15 =>
  ck (inb (v11 + 2) (aln S15.2.2 q1)) <|
  lt (pa S15 q1 (v11 + 2) (gi S15 k0 7)) fun S17 =>
  ck (inb (v11 + 3) (aln S17.2.2 q1)) <|
  lt (pa S17 q1 (v11 + 3) (gi S17 k0 8)) fun S19 =>
  ck (inb (v11 + 4) (aln S19.2.2 q1)) <|
  lt (pa S19 q1 (v11 + 4) (gi S19 k0 9)) fun S21 =>
  some S21)
  else
  (some S))
set_option maxHeartbeats 4000000 in
set_option maxRecDepth 100000 in
theorem kX8_writeTo {l : Launch} {D : va_G} {dA : Nat → ClassId} {ad : Nat → Nat} {t1 t2 : Nat} {N : Nat} {k0 : Nat} (hk0 : k0 = 18 ∨ k0 = 30) {q1 : Nat} (hq1 : inK q1 = true ∧ q1 < 52) {S T : SS} {o : Nat → Int64} {p2 : Int32} {S' : SS} (hR : fX8_writeTo N S k0 q1 p2 = some S') : KV l D dA ad t1 t2 yX8_writeTo cX8_writeTo 4 { frames := 1, cells := 0, slots := 0, locals := 40 } [.ref (ad k0), .ref (ad q1), .int p2] S T o S' T := by
  intro sz
  refine en_ (plainFor_of_name (by decide)) (Nat.le_of_ble_eq_true rfl) ?_
  intro p ev s m args below meth c QQ hQ hsz X hr hlk w ls hl
  have hx := X.1
  have hb := X.2.1
  have hl : lv_has ls 4 [(0, .ref (ad k0)), (1, .ref (ad q1)), (2, .int p2)] := hl
  unfold fX8_writeTo at hR
  refine lv_iload_n hx hb dX8_writeTo_0 rfl (lv_at hl 2 rfl) ?_
  refine lv_if_lt (tgt := 13) hx hb dX8_writeTo_1 (by decide) (fun c1 => ?_) (fun c1 => ?_)
  · rw [if_pos c1] at hR
    rw [hQ]
    exact rt_v X hr hlk w hsz (lf1 hR) rfl dX8_writeTo_13
  · rw [if_neg c1] at hR
    refine lv_iload_n hx hb dX8_writeTo_4 rfl (lv_at hl 2 rfl) ?_
    refine lv_aload_n hx hb dX8_writeTo_5 rfl (lv_at hl 1 rfl) ?_
    refine lenS hq1.1 hq1.2 X w rfl dX8_writeTo_6 ?_
    refine lv_bipush (v := 33) hx hb dX8_writeTo_7 (by decide) ?_
    refine lv_isub hx hb dX8_writeTo_9 ?_
    refine lv_icmp_le (tgt := 14) hx hb dX8_writeTo_10 (by decide) (fun c2 => ?_) (fun c2 => ?_)
    · rw [if_pos c2] at hR
      refine lv_aload_n hx hb dX8_writeTo_14 rfl (lv_at hl 0 rfl) ?_
      refine gX8_colours hk0 X w lfX8_9 dX8_writeTo_15 ?_
      refine lv_iconst (v := 0) hx hb dX8_writeTo_18 (by decide) ?_
      refine lv_aload_n hx hb dX8_writeTo_19 rfl (lv_at hl 1 rfl) ?_
      refine lv_iload_n hx hb dX8_writeTo_20 rfl (lv_at hl 2 rfl) ?_
      refine lv_bipush (v := 7) hx hb dX8_writeTo_21 (by decide) ?_
      obtain ⟨g3, hR⟩ := ck_e hR
      obtain ⟨S4, eS4, hR⟩ := lt_e hR
      refine cpS (n0 := 7) (n1 := (aln S.2.2 q1)) (ikX8_1 hk0) (lkX8_1 hk0) hq1.1 hq1.2 X hl.1 w lmX8_24 (nkX8_1 hk0) rfl g3 (Nat.le_of_ble_eq_true rfl) (Nat.le_of_ble_eq_true rfl) dX8_writeTo_23 (fun H locs w => ?_)
      rw [← eS4] at w
      refine lv_aload_n hx hb dX8_writeTo_26 rfl (lv_at hl 0 rfl) ?_
      refine gX8_lengths hk0 X w lfX8_15 dX8_writeTo_27 ?_
      refine lv_iconst (v := 0) hx hb dX8_writeTo_30 (by decide) ?_
      refine lv_aload_n hx hb dX8_writeTo_31 rfl (lv_at hl 1 rfl) ?_
      refine lv_iload_n hx hb dX8_writeTo_32 rfl (lv_at hl 2 rfl) ?_
      refine lv_bipush (v := 7) hx hb dX8_writeTo_33 (by decide) ?_
      refine lv_iadd hx hb dX8_writeTo_35 ?_
      refine lv_bipush (v := 7) hx hb dX8_writeTo_36 (by decide) ?_
      obtain ⟨g5, hR⟩ := ck_e hR
      obtain ⟨S6, eS6, hR⟩ := lt_e hR
      refine cpS (n0 := 7) (n1 := (aln S4.2.2 q1)) (ikX8_2 hk0) (lkX8_2 hk0) hq1.1 hq1.2 X hl.1 w lmX8_24 (nkX8_2 hk0) rfl g5 (Nat.le_of_ble_eq_true rfl) (Nat.le_of_ble_eq_true rfl) dX8_writeTo_38 (fun H locs w => ?_)
      rw [← eS6] at w
      refine lv_aload_n hx hb dX8_writeTo_41 rfl (lv_at hl 0 rfl) ?_
      refine gX8_behind hk0 X w lfX8_18 dX8_writeTo_42 ?_
      refine lv_iconst (v := 0) hx hb dX8_writeTo_45 (by decide) ?_
      refine lv_aload_n hx hb dX8_writeTo_46 rfl (lv_at hl 1 rfl) ?_
      refine lv_iload_n hx hb dX8_writeTo_47 rfl (lv_at hl 2 rfl) ?_
      refine lv_bipush (v := 14) hx hb dX8_writeTo_48 (by decide) ?_
      refine lv_iadd hx hb dX8_writeTo_50 ?_
      refine lv_bipush (v := 7) hx hb dX8_writeTo_51 (by decide) ?_
      obtain ⟨g7, hR⟩ := ck_e hR
      obtain ⟨S8, eS8, hR⟩ := lt_e hR
      refine cpS (n0 := 7) (n1 := (aln S6.2.2 q1)) (ikX8_3 hk0) (lkX8_3 hk0) hq1.1 hq1.2 X hl.1 w lmX8_24 (nkX8_3 hk0) rfl g7 (Nat.le_of_ble_eq_true rfl) (Nat.le_of_ble_eq_true rfl) dX8_writeTo_53 (fun H locs w => ?_)
      rw [← eS8] at w
      refine lv_aload_n hx hb dX8_writeTo_56 rfl (lv_at hl 0 rfl) ?_
      refine gX8_ahead hk0 X w lfX8_21 dX8_writeTo_57 ?_
      refine lv_iconst (v := 0) hx hb dX8_writeTo_60 (by decide) ?_
      refine lv_aload_n hx hb dX8_writeTo_61 rfl (lv_at hl 1 rfl) ?_
      refine lv_iload_n hx hb dX8_writeTo_62 rfl (lv_at hl 2 rfl) ?_
      refine lv_bipush (v := 21) hx hb dX8_writeTo_63 (by decide) ?_
      refine lv_iadd hx hb dX8_writeTo_65 ?_
      refine lv_bipush (v := 7) hx hb dX8_writeTo_66 (by decide) ?_
      obtain ⟨g9, hR⟩ := ck_e hR
      obtain ⟨S10, eS10, hR⟩ := lt_e hR
      refine cpS (n0 := 7) (n1 := (aln S8.2.2 q1)) (ikX8_4 hk0) (lkX8_4 hk0) hq1.1 hq1.2 X hl.1 w lmX8_24 (nkX8_4 hk0) rfl g9 (Nat.le_of_ble_eq_true rfl) (Nat.le_of_ble_eq_true rfl) dX8_writeTo_68 (fun H locs w => ?_)
      rw [← eS10] at w
      refine lv_iload_n hx hb dX8_writeTo_71 rfl (lv_at hl 2 rfl) ?_
      refine lv_bipush (v := 28) hx hb dX8_writeTo_72 (by decide) ?_
      refine lv_iadd hx hb dX8_writeTo_74 ?_
      obtain ⟨v11, ev11, hR⟩ := lt_e hR
      refine nm_i ev11 ?_
      refine lv_istore_n (lv' := [(3, .int v11), (0, .ref (ad k0)), (1, .ref (ad q1)), (2, .int p2)]) hx hb dX8_writeTo_75 rfl hl (by decide) rfl (fun ls hl => ?_)
      refine lv_aload_n hx hb dX8_writeTo_76 rfl (lv_at hl 2 rfl) ?_
      refine lv_iload_n hx hb dX8_writeTo_77 rfl (lv_at hl 0 rfl) ?_
      refine lv_aload_n hx hb dX8_writeTo_78 rfl (lv_at hl 1 rfl) ?_
      refine gX8_sold hk0 X w lfX8_30 dX8_writeTo_79 ?_
      obtain ⟨g12, hR⟩ := ck_e hR
      obtain ⟨S13, eS13, hR⟩ := lt_e hR
      refine iasS (n := (aln S10.2.2 q1)) hq1.1 hq1.2 X w rfl g12 dX8_writeTo_82 (fun H locs w => ?_)
      rw [← eS13] at w
      refine lv_aload_n hx hb dX8_writeTo_83 rfl (lv_at hl 2 rfl) ?_
      refine lv_iload_n hx hb dX8_writeTo_84 rfl (lv_at hl 0 rfl) ?_
      refine lv_iconst (v := 1) hx hb dX8_writeTo_85 (by decide) ?_
      refine lv_iadd hx hb dX8_writeTo_86 ?_
      refine lv_aload_n hx hb dX8_writeTo_87 rfl (lv_at hl 1 rfl) ?_
      refine gX8_tries hk0 X w lfX8_34 dX8_writeTo_88 ?_
      obtain ⟨g14, hR⟩ := ck_e hR
      obtain ⟨S15, eS15, hR⟩ := lt_e hR
      refine iasS (n := (aln S13.2.2 q1)) hq1.1 hq1.2 X w rfl g14 dX8_writeTo_91 (fun H locs w => ?_)
      rw [← eS15] at w
      refine lv_aload_n hx hb dX8_writeTo_92 rfl (lv_at hl 2 rfl) ?_
      refine lv_iload_n hx hb dX8_writeTo_93 rfl (lv_at hl 0 rfl) ?_
      refine lv_iconst (v := 2) hx hb dX8_writeTo_94 (by decide) ?_
      refine lv_iadd hx hb dX8_writeTo_95 ?_
      refine lv_aload_n hx hb dX8_writeTo_96 rfl (lv_at hl 1 rfl) ?_
      refine gX8_made hk0 X w lfX8_37 dX8_writeTo_97 ?_
      obtain ⟨g16, hR⟩ := ck_e hR
      obtain ⟨S17, eS17, hR⟩ := lt_e hR
      refine iasS (n := (aln S15.2.2 q1)) hq1.1 hq1.2 X w rfl g16 dX8_writeTo_100 (fun H locs w => ?_)
      rw [← eS17] at w
      refine lv_aload_n hx hb dX8_writeTo_101 rfl (lv_at hl 2 rfl) ?_
      refine lv_iload_n hx hb dX8_writeTo_102 rfl (lv_at hl 0 rfl) ?_
      refine lv_iconst (v := 3) hx hb dX8_writeTo_103 (by decide) ?_
      refine lv_iadd hx hb dX8_writeTo_104 ?_
      refine lv_aload_n hx hb dX8_writeTo_105 rfl (lv_at hl 1 rfl) ?_
      refine gX8_coins hk0 X w lfX8_40 dX8_writeTo_106 ?_
      obtain ⟨g18, hR⟩ := ck_e hR
      obtain ⟨S19, eS19, hR⟩ := lt_e hR
      refine iasS (n := (aln S17.2.2 q1)) hq1.1 hq1.2 X w rfl g18 dX8_writeTo_109 (fun H locs w => ?_)
      rw [← eS19] at w
      refine lv_aload_n hx hb dX8_writeTo_110 rfl (lv_at hl 2 rfl) ?_
      refine lv_iload_n hx hb dX8_writeTo_111 rfl (lv_at hl 0 rfl) ?_
      refine lv_iconst (v := 4) hx hb dX8_writeTo_112 (by decide) ?_
      refine lv_iadd hx hb dX8_writeTo_113 ?_
      refine lv_aload_n hx hb dX8_writeTo_114 rfl (lv_at hl 1 rfl) ?_
      refine gX8_day hk0 X w lfX8_43 dX8_writeTo_115 ?_
      obtain ⟨g20, hR⟩ := ck_e hR
      obtain ⟨S21, eS21, hR⟩ := lt_e hR
      refine iasS (n := (aln S19.2.2 q1)) hq1.1 hq1.2 X w rfl g20 dX8_writeTo_118 (fun H locs w => ?_)
      rw [← eS21] at w
      rw [hQ]
      exact rt_v X hr hlk w hsz (lf1 hR) rfl dX8_writeTo_119
    · rw [if_neg c2] at hR
      rw [hQ]
      exact rt_v X hr hlk w hsz (lf1 hR) rfl dX8_writeTo_13
/- LooseEnds$Memory.keep(LLooseEnds$State;)V -/
def fX4_keep (N : Nat) (S : SS) (k1 : Nat) : Option (SS) := bd (fX8_writeTo N S k1 24 ((gi S 23 5) * 33)) fun S2 =>
  lt (pj S2 23 5 (ir ((gi S2 23 5) + 1) 40)) fun S3 =>
  lt (pj S3 23 6 (mn 40 ((gi S3 23 6) + 1))) fun S4 =>
  some S4
set_option maxHeartbeats 4000000 in
set_option maxRecDepth 100000 in
theorem kX4_keep {l : Launch} {D : va_G} {dA : Nat → ClassId} {ad : Nat → Nat} {t1 t2 : Nat} {N : Nat} {k1 : Nat} (hk1 : k1 = 18 ∨ k1 = 30) {S T : SS} {o : Nat → Int64} {S' : SS} (hR : fX4_keep N S k1 = some S') : KV l D dA ad t1 t2 yX4_keep cX4_keep 2 { frames := 2, cells := 0, slots := 0, locals := 63 } [.ref (ad 23), .ref (ad k1)] S T o S' T := by
  intro sz
  refine en_ (plainFor_of_name (by decide)) (Nat.le_of_ble_eq_true rfl) ?_
  intro p ev s m args below meth c QQ hQ hsz X hr hlk w ls hl
  have hx := X.1
  have hb := X.2.1
  have hl : lv_has ls 2 [(0, .ref (ad 23)), (1, .ref (ad k1))] := hl
  unfold fX4_keep at hR
  refine lv_aload_n hx hb dX4_keep_0 rfl (lv_at hl 1 rfl) ?_
  refine lv_aload_n hx hb dX4_keep_1 rfl (lv_at hl 0 rfl) ?_
  refine gX4_acts X w lfX4_13 dX4_keep_2 ?_
  refine lv_aload_n hx hb dX4_keep_5 rfl (lv_at hl 0 rfl) ?_
  refine gX4_next X w lfX4_30 dX4_keep_6 ?_
  refine lv_bipush (v := 33) hx hb dX4_keep_9 (by decide) ?_
  refine lv_imul hx hb dX4_keep_11 ?_
  obtain ⟨S2, h1, hR⟩ := bd_e hR
  refine cVv (k := k1) (As := [.ref (ad 24), .int ((gi S 23 5) * 33)]) (rest := []) X hl.1 w okX8_writeTo (obX8 hk1) rfl lmX4_37 (kX8_writeTo hk1 ⟨rfl, (by decide)⟩ h1) ⟨Nat.le_of_ble_eq_true rfl, Nat.le_of_ble_eq_true rfl⟩ ⟨rfl, rfl⟩ ⟨Nat.zero_le _, Nat.zero_le _⟩ rfl rfl (Nat.le_of_ble_eq_true rfl) dX4_keep_12 (fun H locs w => ?_)
  refine lv_aload_n hx hb dX4_keep_15 rfl (lv_at hl 0 rfl) ?_
  refine lv_aload_n hx hb dX4_keep_16 rfl (lv_at hl 0 rfl) ?_
  refine gX4_next X w lfX4_30 dX4_keep_17 ?_
  refine lv_iconst (v := 1) hx hb dX4_keep_20 (by decide) ?_
  refine lv_iadd hx hb dX4_keep_21 ?_
  refine lv_bipush (v := 40) hx hb dX4_keep_22 (by decide) ?_
  refine lv_irem hx hb dX4_keep_24 (by decide) ?_
  obtain ⟨S3, eS3, hR⟩ := lt_e hR
  refine pX4_next X w lfX4_30 dX4_keep_25 (fun H locs w => ?_)
  rw [← eS3] at w
  refine lv_aload_n hx hb dX4_keep_28 rfl (lv_at hl 0 rfl) ?_
  refine lv_bipush (v := 40) hx hb dX4_keep_29 (by decide) ?_
  refine lv_aload_n hx hb dX4_keep_31 rfl (lv_at hl 0 rfl) ?_
  refine gX4_size X w lfX4_26 dX4_keep_32 ?_
  refine lv_iconst (v := 1) hx hb dX4_keep_35 (by decide) ?_
  refine lv_iadd hx hb dX4_keep_36 ?_
  refine mnI X hl.1 lmX4_41 ⟨Nat.le_of_ble_eq_true rfl, Nat.le_of_ble_eq_true rfl⟩ ⟨Nat.zero_le _, Nat.zero_le _⟩ dX4_keep_37 ?_
  obtain ⟨S4, eS4, hR⟩ := lt_e hR
  refine pX4_size X w lfX4_26 dX4_keep_40 (fun H locs w => ?_)
  rw [← eS4] at w
  rw [hQ]
  exact rt_v X hr hlk w hsz (lf1 hR) rfl dX4_keep_43
/- LooseEnds$State.readFrom([II)V -/
def fX8_readFrom (N : Nat) (S : SS) (k0 : Nat) (q1 : Nat) (p2 : Int32) : Option (SS) := if p2 < 0 then
  (some S)
  else
  (if p2 ≤ ((Int32.ofNat (aln S.2.2 q1)) - 33) then
  (ck (cpb p2 0 7 (aln S.2.2 q1) 7) <|
  lt (cp S q1 p2 (k0 + 1) 0 7) fun S4 =>
  ck (cpb (p2 + 7) 0 7 (aln S4.2.2 q1) 7) <|
  lt (cp S4 q1 (p2 + 7) (k0 + 2) 0 7) fun S6 =>
  ck (cpb (p2 + 14) 0 7 (aln S6.2.2 q1) 7) <|
  lt (cp S6 q1 (p2 + 14) (k0 + 3) 0 7) fun S8 =>
  ck (cpb (p2 + 21) 0 7 (aln S8.2.2 q1) 7) <|
  lt (cp S8 q1 (p2 + 21) (k0 + 4) 0 7) fun S10 =>
  lt (p2 + 28) fun v11 =>
  ck (inb v11 (aln S10.2.2 q1)) <|
  lt (pj S10 k0 5 (ga S10 q1 v11)) fun S13 =>
  ck (inb (v11 + 1) (aln S13.2.2 q1)) <|
  lt (pj S13 k0 6 (ga S13 q1 (v11 + 1))) fun S15 =>
  ck (inb (v11 + 2) (aln S15.2.2 q1)) <|
  lt (pj S15 k0 7 (ga S15 q1 (v11 + 2))) fun S17 =>
  ck (inb (v11 + 3) (aln S17.2.2 q1)) <|
  lt (pj S17 k0 8 (ga S17 q1 (v11 + 3))) fun S19 =>
  ck (inb (v11 + 4) (aln S19.2.2 q1)) <|
  lt (pj S19 k0 9 (ga S19 q1 (v11 + 4))) fun S21 =>
  some S21)
  else
  (some S))
set_option maxHeartbeats 4000000 in
set_option maxRecDepth 100000 in
theorem kX8_readFrom {l : Launch} {D : va_G} {dA : Nat → ClassId} {ad : Nat → Nat} {t1 t2 : Nat} {N : Nat} {k0 : Nat} (hk0 : k0 = 18 ∨ k0 = 30) {q1 : Nat} (hq1 : inK q1 = true ∧ q1 < 52) {S T : SS} {o : Nat → Int64} {p2 : Int32} {S' : SS} (hR : fX8_readFrom N S k0 q1 p2 = some S') : KV l D dA ad t1 t2 yX8_readFrom cX8_readFrom 4 { frames := 1, cells := 0, slots := 0, locals := 40 } [.ref (ad k0), .ref (ad q1), .int p2] S T o S' T := by
  intro sz
  refine en_ (plainFor_of_name (by decide)) (Nat.le_of_ble_eq_true rfl) ?_
  intro p ev s m args below meth c QQ hQ hsz X hr hlk w ls hl
  have hx := X.1
  have hb := X.2.1
  have hl : lv_has ls 4 [(0, .ref (ad k0)), (1, .ref (ad q1)), (2, .int p2)] := hl
  unfold fX8_readFrom at hR
  refine lv_iload_n hx hb dX8_readFrom_0 rfl (lv_at hl 2 rfl) ?_
  refine lv_if_lt (tgt := 13) hx hb dX8_readFrom_1 (by decide) (fun c1 => ?_) (fun c1 => ?_)
  · rw [if_pos c1] at hR
    rw [hQ]
    exact rt_v X hr hlk w hsz (lf1 hR) rfl dX8_readFrom_13
  · rw [if_neg c1] at hR
    refine lv_iload_n hx hb dX8_readFrom_4 rfl (lv_at hl 2 rfl) ?_
    refine lv_aload_n hx hb dX8_readFrom_5 rfl (lv_at hl 1 rfl) ?_
    refine lenS hq1.1 hq1.2 X w rfl dX8_readFrom_6 ?_
    refine lv_bipush (v := 33) hx hb dX8_readFrom_7 (by decide) ?_
    refine lv_isub hx hb dX8_readFrom_9 ?_
    refine lv_icmp_le (tgt := 14) hx hb dX8_readFrom_10 (by decide) (fun c2 => ?_) (fun c2 => ?_)
    · rw [if_pos c2] at hR
      refine lv_aload_n hx hb dX8_readFrom_14 rfl (lv_at hl 1 rfl) ?_
      refine lv_iload_n hx hb dX8_readFrom_15 rfl (lv_at hl 2 rfl) ?_
      refine lv_aload_n hx hb dX8_readFrom_16 rfl (lv_at hl 0 rfl) ?_
      refine gX8_colours hk0 X w lfX8_9 dX8_readFrom_17 ?_
      refine lv_iconst (v := 0) hx hb dX8_readFrom_20 (by decide) ?_
      refine lv_bipush (v := 7) hx hb dX8_readFrom_21 (by decide) ?_
      obtain ⟨g3, hR⟩ := ck_e hR
      obtain ⟨S4, eS4, hR⟩ := lt_e hR
      refine cpS (n0 := (aln S.2.2 q1)) (n1 := 7) hq1.1 hq1.2 (ikX8_1 hk0) (lkX8_1 hk0) X hl.1 w lmX8_24 rfl (nkX8_1 hk0) g3 (Nat.le_of_ble_eq_true rfl) (Nat.le_of_ble_eq_true rfl) dX8_readFrom_23 (fun H locs w => ?_)
      rw [← eS4] at w
      refine lv_aload_n hx hb dX8_readFrom_26 rfl (lv_at hl 1 rfl) ?_
      refine lv_iload_n hx hb dX8_readFrom_27 rfl (lv_at hl 2 rfl) ?_
      refine lv_bipush (v := 7) hx hb dX8_readFrom_28 (by decide) ?_
      refine lv_iadd hx hb dX8_readFrom_30 ?_
      refine lv_aload_n hx hb dX8_readFrom_31 rfl (lv_at hl 0 rfl) ?_
      refine gX8_lengths hk0 X w lfX8_15 dX8_readFrom_32 ?_
      refine lv_iconst (v := 0) hx hb dX8_readFrom_35 (by decide) ?_
      refine lv_bipush (v := 7) hx hb dX8_readFrom_36 (by decide) ?_
      obtain ⟨g5, hR⟩ := ck_e hR
      obtain ⟨S6, eS6, hR⟩ := lt_e hR
      refine cpS (n0 := (aln S4.2.2 q1)) (n1 := 7) hq1.1 hq1.2 (ikX8_2 hk0) (lkX8_2 hk0) X hl.1 w lmX8_24 rfl (nkX8_2 hk0) g5 (Nat.le_of_ble_eq_true rfl) (Nat.le_of_ble_eq_true rfl) dX8_readFrom_38 (fun H locs w => ?_)
      rw [← eS6] at w
      refine lv_aload_n hx hb dX8_readFrom_41 rfl (lv_at hl 1 rfl) ?_
      refine lv_iload_n hx hb dX8_readFrom_42 rfl (lv_at hl 2 rfl) ?_
      refine lv_bipush (v := 14) hx hb dX8_readFrom_43 (by decide) ?_
      refine lv_iadd hx hb dX8_readFrom_45 ?_
      refine lv_aload_n hx hb dX8_readFrom_46 rfl (lv_at hl 0 rfl) ?_
      refine gX8_behind hk0 X w lfX8_18 dX8_readFrom_47 ?_
      refine lv_iconst (v := 0) hx hb dX8_readFrom_50 (by decide) ?_
      refine lv_bipush (v := 7) hx hb dX8_readFrom_51 (by decide) ?_
      obtain ⟨g7, hR⟩ := ck_e hR
      obtain ⟨S8, eS8, hR⟩ := lt_e hR
      refine cpS (n0 := (aln S6.2.2 q1)) (n1 := 7) hq1.1 hq1.2 (ikX8_3 hk0) (lkX8_3 hk0) X hl.1 w lmX8_24 rfl (nkX8_3 hk0) g7 (Nat.le_of_ble_eq_true rfl) (Nat.le_of_ble_eq_true rfl) dX8_readFrom_53 (fun H locs w => ?_)
      rw [← eS8] at w
      refine lv_aload_n hx hb dX8_readFrom_56 rfl (lv_at hl 1 rfl) ?_
      refine lv_iload_n hx hb dX8_readFrom_57 rfl (lv_at hl 2 rfl) ?_
      refine lv_bipush (v := 21) hx hb dX8_readFrom_58 (by decide) ?_
      refine lv_iadd hx hb dX8_readFrom_60 ?_
      refine lv_aload_n hx hb dX8_readFrom_61 rfl (lv_at hl 0 rfl) ?_
      refine gX8_ahead hk0 X w lfX8_21 dX8_readFrom_62 ?_
      refine lv_iconst (v := 0) hx hb dX8_readFrom_65 (by decide) ?_
      refine lv_bipush (v := 7) hx hb dX8_readFrom_66 (by decide) ?_
      obtain ⟨g9, hR⟩ := ck_e hR
      obtain ⟨S10, eS10, hR⟩ := lt_e hR
      refine cpS (n0 := (aln S8.2.2 q1)) (n1 := 7) hq1.1 hq1.2 (ikX8_4 hk0) (lkX8_4 hk0) X hl.1 w lmX8_24 rfl (nkX8_4 hk0) g9 (Nat.le_of_ble_eq_true rfl) (Nat.le_of_ble_eq_true rfl) dX8_readFrom_68 (fun H locs w => ?_)
      rw [← eS10] at w
      refine lv_iload_n hx hb dX8_readFrom_71 rfl (lv_at hl 2 rfl) ?_
      refine lv_bipush (v := 28) hx hb dX8_readFrom_72 (by decide) ?_
      refine lv_iadd hx hb dX8_readFrom_74 ?_
      obtain ⟨v11, ev11, hR⟩ := lt_e hR
      refine nm_i ev11 ?_
      refine lv_istore_n (lv' := [(3, .int v11), (0, .ref (ad k0)), (1, .ref (ad q1)), (2, .int p2)]) hx hb dX8_readFrom_75 rfl hl (by decide) rfl (fun ls hl => ?_)
      refine lv_aload_n hx hb dX8_readFrom_76 rfl (lv_at hl 1 rfl) ?_
      refine lv_aload_n hx hb dX8_readFrom_77 rfl (lv_at hl 2 rfl) ?_
      refine lv_iload_n hx hb dX8_readFrom_78 rfl (lv_at hl 0 rfl) ?_
      obtain ⟨g12, hR⟩ := ck_e hR
      refine ialS (n := (aln S10.2.2 q1)) hq1.1 hq1.2 X w rfl g12 dX8_readFrom_79 ?_
      obtain ⟨S13, eS13, hR⟩ := lt_e hR
      refine pX8_sold hk0 X w lfX8_30 dX8_readFrom_80 (fun H locs w => ?_)
      rw [← eS13] at w
      refine lv_aload_n hx hb dX8_readFrom_83 rfl (lv_at hl 1 rfl) ?_
      refine lv_aload_n hx hb dX8_readFrom_84 rfl (lv_at hl 2 rfl) ?_
      refine lv_iload_n hx hb dX8_readFrom_85 rfl (lv_at hl 0 rfl) ?_
      refine lv_iconst (v := 1) hx hb dX8_readFrom_86 (by decide) ?_
      refine lv_iadd hx hb dX8_readFrom_87 ?_
      obtain ⟨g14, hR⟩ := ck_e hR
      refine ialS (n := (aln S13.2.2 q1)) hq1.1 hq1.2 X w rfl g14 dX8_readFrom_88 ?_
      obtain ⟨S15, eS15, hR⟩ := lt_e hR
      refine pX8_tries hk0 X w lfX8_34 dX8_readFrom_89 (fun H locs w => ?_)
      rw [← eS15] at w
      refine lv_aload_n hx hb dX8_readFrom_92 rfl (lv_at hl 1 rfl) ?_
      refine lv_aload_n hx hb dX8_readFrom_93 rfl (lv_at hl 2 rfl) ?_
      refine lv_iload_n hx hb dX8_readFrom_94 rfl (lv_at hl 0 rfl) ?_
      refine lv_iconst (v := 2) hx hb dX8_readFrom_95 (by decide) ?_
      refine lv_iadd hx hb dX8_readFrom_96 ?_
      obtain ⟨g16, hR⟩ := ck_e hR
      refine ialS (n := (aln S15.2.2 q1)) hq1.1 hq1.2 X w rfl g16 dX8_readFrom_97 ?_
      obtain ⟨S17, eS17, hR⟩ := lt_e hR
      refine pX8_made hk0 X w lfX8_37 dX8_readFrom_98 (fun H locs w => ?_)
      rw [← eS17] at w
      refine lv_aload_n hx hb dX8_readFrom_101 rfl (lv_at hl 1 rfl) ?_
      refine lv_aload_n hx hb dX8_readFrom_102 rfl (lv_at hl 2 rfl) ?_
      refine lv_iload_n hx hb dX8_readFrom_103 rfl (lv_at hl 0 rfl) ?_
      refine lv_iconst (v := 3) hx hb dX8_readFrom_104 (by decide) ?_
      refine lv_iadd hx hb dX8_readFrom_105 ?_
      obtain ⟨g18, hR⟩ := ck_e hR
      refine ialS (n := (aln S17.2.2 q1)) hq1.1 hq1.2 X w rfl g18 dX8_readFrom_106 ?_
      obtain ⟨S19, eS19, hR⟩ := lt_e hR
      refine pX8_coins hk0 X w lfX8_40 dX8_readFrom_107 (fun H locs w => ?_)
      rw [← eS19] at w
      refine lv_aload_n hx hb dX8_readFrom_110 rfl (lv_at hl 1 rfl) ?_
      refine lv_aload_n hx hb dX8_readFrom_111 rfl (lv_at hl 2 rfl) ?_
      refine lv_iload_n hx hb dX8_readFrom_112 rfl (lv_at hl 0 rfl) ?_
      refine lv_iconst (v := 4) hx hb dX8_readFrom_113 (by decide) ?_
      refine lv_iadd hx hb dX8_readFrom_114 ?_
      obtain ⟨g20, hR⟩ := ck_e hR
      refine ialS (n := (aln S19.2.2 q1)) hq1.1 hq1.2 X w rfl g20 dX8_readFrom_115 ?_
      obtain ⟨S21, eS21, hR⟩ := lt_e hR
      refine pX8_day hk0 X w lfX8_43 dX8_readFrom_116 (fun H locs w => ?_)
      rw [← eS21] at w
      rw [hQ]
      exact rt_v X hr hlk w hsz (lf1 hR) rfl dX8_readFrom_119
    · rw [if_neg c2] at hR
      rw [hQ]
      exact rt_v X hr hlk w hsz (lf1 hR) rfl dX8_readFrom_13
/- LooseEnds$Memory.bringBackLatest(LLooseEnds$State;)Z -/
def fX4_bringBackLatest (N : Nat) (S : SS) (k1 : Nat) : Option (SS × Int32) := if (gi S 23 6) = 0 then
  (some (S, 0))
  else
  (lt (pj S 23 5 (ir (((gi S 23 5) + 40) - 1) 40)) fun S2 =>
  lt (pj S2 23 6 ((gi S2 23 6) - 1)) fun S3 =>
  bd (fX8_readFrom N S3 k1 24 ((gi S3 23 5) * 33)) fun S5 =>
  some (S5, 1))
set_option maxHeartbeats 4000000 in
set_option maxRecDepth 100000 in
theorem kX4_bringBackLatest {l : Launch} {D : va_G} {dA : Nat → ClassId} {ad : Nat → Nat} {t1 t2 : Nat} {N : Nat} {k1 : Nat} (hk1 : k1 = 18 ∨ k1 = 30) {S T : SS} {o : Nat → Int64} {r : Int32} {S' : SS} (hR : fX4_bringBackLatest N S k1 = some (S', r)) : KI l D dA ad t1 t2 yX4_bringBackLatest cX4_bringBackLatest 2 .boolean { frames := 2, cells := 0, slots := 0, locals := 63 } [.ref (ad 23), .ref (ad k1)] S T o r S' T := by
  intro sz
  refine en_ (plainFor_of_name (by decide)) (Nat.le_of_ble_eq_true rfl) ?_
  intro p ev s m args below meth c QQ hQ hsz X hr hlk w ls hl
  have hx := X.1
  have hb := X.2.1
  have hl : lv_has ls 2 [(0, .ref (ad 23)), (1, .ref (ad k1))] := hl
  unfold fX4_bringBackLatest at hR
  refine lv_aload_n hx hb dX4_bringBackLatest_0 rfl (lv_at hl 0 rfl) ?_
  refine gX4_size X w lfX4_26 dX4_bringBackLatest_1 ?_
  refine lv_if_ne (tgt := 9) hx hb dX4_bringBackLatest_4 (by decide) (fun c1 => ?_) (fun c1 => ?_)
  · rw [if_neg c1] at hR
    refine lv_aload_n hx hb dX4_bringBackLatest_9 rfl (lv_at hl 0 rfl) ?_
    refine lv_aload_n hx hb dX4_bringBackLatest_10 rfl (lv_at hl 0 rfl) ?_
    refine gX4_next X w lfX4_30 dX4_bringBackLatest_11 ?_
    refine lv_bipush (v := 40) hx hb dX4_bringBackLatest_14 (by decide) ?_
    refine lv_iadd hx hb dX4_bringBackLatest_16 ?_
    refine lv_iconst (v := 1) hx hb dX4_bringBackLatest_17 (by decide) ?_
    refine lv_isub hx hb dX4_bringBackLatest_18 ?_
    refine lv_bipush (v := 40) hx hb dX4_bringBackLatest_19 (by decide) ?_
    refine lv_irem hx hb dX4_bringBackLatest_21 (by decide) ?_
    obtain ⟨S2, eS2, hR⟩ := lt_e hR
    refine pX4_next X w lfX4_30 dX4_bringBackLatest_22 (fun H locs w => ?_)
    rw [← eS2] at w
    refine lv_aload_n hx hb dX4_bringBackLatest_25 rfl (lv_at hl 0 rfl) ?_
    refine lv_dup hx hb dX4_bringBackLatest_26 rfl ?_
    refine gX4_size X w lfX4_26 dX4_bringBackLatest_27 ?_
    refine lv_iconst (v := 1) hx hb dX4_bringBackLatest_30 (by decide) ?_
    refine lv_isub hx hb dX4_bringBackLatest_31 ?_
    obtain ⟨S3, eS3, hR⟩ := lt_e hR
    refine pX4_size X w lfX4_26 dX4_bringBackLatest_32 (fun H locs w => ?_)
    rw [← eS3] at w
    refine lv_aload_n hx hb dX4_bringBackLatest_35 rfl (lv_at hl 1 rfl) ?_
    refine lv_aload_n hx hb dX4_bringBackLatest_36 rfl (lv_at hl 0 rfl) ?_
    refine gX4_acts X w lfX4_13 dX4_bringBackLatest_37 ?_
    refine lv_aload_n hx hb dX4_bringBackLatest_40 rfl (lv_at hl 0 rfl) ?_
    refine gX4_next X w lfX4_30 dX4_bringBackLatest_41 ?_
    refine lv_bipush (v := 33) hx hb dX4_bringBackLatest_44 (by decide) ?_
    refine lv_imul hx hb dX4_bringBackLatest_46 ?_
    obtain ⟨S5, h4, hR⟩ := bd_e hR
    refine cVv (k := k1) (As := [.ref (ad 24), .int ((gi S3 23 5) * 33)]) (rest := []) X hl.1 w okX8_readFrom (obX8 hk1) rfl lmX4_47 (kX8_readFrom hk1 ⟨rfl, (by decide)⟩ h4) ⟨Nat.le_of_ble_eq_true rfl, Nat.le_of_ble_eq_true rfl⟩ ⟨rfl, rfl⟩ ⟨Nat.zero_le _, Nat.zero_le _⟩ rfl rfl (Nat.le_of_ble_eq_true rfl) dX4_bringBackLatest_47 (fun H locs w => ?_)
    refine lv_iconst (v := 1) hx hb dX4_bringBackLatest_50 (by decide) ?_
    rw [hQ]
    exact rt_i X hr hlk w hsz rfl (lf2 hR).1 rfl (lf2 hR).2 dX4_bringBackLatest_51
  · rw [if_pos c1] at hR
    refine lv_iconst (v := 0) hx hb dX4_bringBackLatest_7 (by decide) ?_
    rw [hQ]
    exact rt_i X hr hlk w hsz rfl (lf2 hR).1 rfl (lf2 hR).2 dX4_bringBackLatest_8
/- LooseEnds$Memory.loggedBy(I)I -/
def fX4_loggedBy (N : Nat) (p0 : Int32) : Option (Int32) := some (mn 60 p0)
set_option maxHeartbeats 4000000 in
set_option maxRecDepth 100000 in
theorem kX4_loggedBy {l : Launch} {D : va_G} {dA : Nat → ClassId} {ad : Nat → Nat} {t1 t2 : Nat} {N : Nat} {S T : SS} {o : Nat → Int64} {p0 : Int32} {r : Int32} (hR : fX4_loggedBy N p0 = some r) : KI l D dA ad t1 t2 yX4_loggedBy cX4_loggedBy 1 .int { frames := 1, cells := 0, slots := 0, locals := 13 } [.int p0] S T o r S T := by
  intro sz
  refine en_ (plainFor_of_name (by decide)) (Nat.le_of_ble_eq_true rfl) ?_
  intro p ev s m args below meth c QQ hQ hsz X hr hlk w ls hl
  have hx := X.1
  have hb := X.2.1
  have hl : lv_has ls 1 [(0, .int p0)] := hl
  unfold fX4_loggedBy at hR
  refine lv_bipush (v := 60) hx hb dX4_loggedBy_0 (by decide) ?_
  refine lv_iload_n hx hb dX4_loggedBy_2 rfl (lv_at hl 0 rfl) ?_
  refine mnI X hl.1 lmX4_41 ⟨Nat.le_of_ble_eq_true rfl, Nat.le_of_ble_eq_true rfl⟩ ⟨Nat.zero_le _, Nat.zero_le _⟩ dX4_loggedBy_3 ?_
  rw [hQ]
  exact rt_i X hr hlk w hsz rfl rfl rfl (lf1 hR) dX4_loggedBy_6
/- java/lang/Math.floorMod(II)I -/
def fJ9_floorMod_7cf53 (N : Nat) (p0 : Int32) (p1 : Int32) : Option (Int32) := ck (decide (¬ p1 = 0)) <|
  lt (ir p0 p1) fun v2 =>
  if 0 ≤ (p0 ^^^ p1) then
  (some v2)
  else
  (if v2 = 0 then
  (some v2)
  else
  (some (v2 + p1)))
set_option maxHeartbeats 4000000 in
set_option maxRecDepth 100000 in
theorem kJ9_floorMod_7cf53 {l : Launch} {D : va_G} {dA : Nat → ClassId} {ad : Nat → Nat} {t1 t2 : Nat} {N : Nat} {S T : SS} {o : Nat → Int64} {p0 : Int32} {p1 : Int32} {r : Int32} (hR : fJ9_floorMod_7cf53 N p0 p1 = some r) : KI l D dA ad t1 t2 yJ9_floorMod_7cf53 cJ9_floorMod_7cf53 3 .int { frames := 0, cells := 0, slots := 0, locals := 0 } [.int p0, .int p1] S T o r S T := by
  intro sz
  refine en_ (by decide +kernel) (Nat.le_of_ble_eq_true rfl) ?_
  intro p ev s m args below meth c QQ hQ hsz X hr hlk w ls hl
  have hx := X.1
  have hb := X.2.1
  have hl : lv_has ls 3 [(0, .int p0), (1, .int p1)] := hl
  unfold fJ9_floorMod_7cf53 at hR
  refine lv_iload_n hx hb dJ9_floorMod_7cf53_0 rfl (lv_at hl 0 rfl) ?_
  refine lv_iload_n hx hb dJ9_floorMod_7cf53_1 rfl (lv_at hl 1 rfl) ?_
  obtain ⟨g1, hR⟩ := ck_e hR
  refine lv_irem hx hb dJ9_floorMod_7cf53_2 (of_decide_eq_true g1) ?_
  obtain ⟨v2, ev2, hR⟩ := lt_e hR
  refine nm_i ev2 ?_
  refine lv_istore_n (lv' := [(2, .int v2), (0, .int p0), (1, .int p1)]) hx hb dJ9_floorMod_7cf53_3 rfl hl (by decide) rfl (fun ls hl => ?_)
  refine lv_iload_n hx hb dJ9_floorMod_7cf53_4 rfl (lv_at hl 1 rfl) ?_
  refine lv_iload_n hx hb dJ9_floorMod_7cf53_5 rfl (lv_at hl 2 rfl) ?_
  refine lv_ixor hx hb dJ9_floorMod_7cf53_6 ?_
  refine lv_if_ge (tgt := 18) hx hb dJ9_floorMod_7cf53_7 (by decide) (fun c3 => ?_) (fun c3 => ?_)
  · rw [if_pos c3] at hR
    refine lv_iload_n hx hb dJ9_floorMod_7cf53_18 rfl (lv_at hl 0 rfl) ?_
    rw [hQ]
    exact rt_i X hr hlk w hsz rfl rfl rfl (lf1 hR) dJ9_floorMod_7cf53_19
  · rw [if_neg c3] at hR
    refine lv_iload_n hx hb dJ9_floorMod_7cf53_10 rfl (lv_at hl 0 rfl) ?_
    refine lv_if_eq (tgt := 18) hx hb dJ9_floorMod_7cf53_11 (by decide) (fun c4 => ?_) (fun c4 => ?_)
    · rw [if_pos c4] at hR
      refine lv_iload_n hx hb dJ9_floorMod_7cf53_18 rfl (lv_at hl 0 rfl) ?_
      rw [hQ]
      exact rt_i X hr hlk w hsz rfl rfl rfl (lf1 hR) dJ9_floorMod_7cf53_19
    · rw [if_neg c4] at hR
      refine lv_iload_n hx hb dJ9_floorMod_7cf53_14 rfl (lv_at hl 0 rfl) ?_
      refine lv_iload_n hx hb dJ9_floorMod_7cf53_15 rfl (lv_at hl 2 rfl) ?_
      refine lv_iadd hx hb dJ9_floorMod_7cf53_16 ?_
      rw [hQ]
      exact rt_i X hr hlk w hsz rfl rfl rfl (lf1 hR) dJ9_floorMod_7cf53_17
/- LooseEnds$Memory.placeOf(I)I -/
def fX4_placeOf (N : Nat) (p0 : Int32) : Option (Int32) := bd (fJ9_floorMod_7cf53 N p0 100) fun r2 =>
  some (r2 * 3)
set_option maxHeartbeats 4000000 in
set_option maxRecDepth 100000 in
theorem kX4_placeOf {l : Launch} {D : va_G} {dA : Nat → ClassId} {ad : Nat → Nat} {t1 t2 : Nat} {N : Nat} {S T : SS} {o : Nat → Int64} {p0 : Int32} {r : Int32} (hR : fX4_placeOf N p0 = some r) : KI l D dA ad t1 t2 yX4_placeOf cX4_placeOf 1 .int { frames := 1, cells := 0, slots := 0, locals := 22 } [.int p0] S T o r S T := by
  intro sz
  refine en_ (plainFor_of_name (by decide)) (Nat.le_of_ble_eq_true rfl) ?_
  intro p ev s m args below meth c QQ hQ hsz X hr hlk w ls hl
  have hx := X.1
  have hb := X.2.1
  have hl : lv_has ls 1 [(0, .int p0)] := hl
  unfold fX4_placeOf at hR
  refine lv_iload_n hx hb dX4_placeOf_0 rfl (lv_at hl 0 rfl) ?_
  refine lv_bipush (v := 100) hx hb dX4_placeOf_1 (by decide) ?_
  obtain ⟨r2, h1, hR⟩ := bd_e hR
  refine cSi (As := [.int p0, .int 100]) (rest := []) X hl.1 w okJ9_floorMod_7cf53 lmX4_50 (kJ9_floorMod_7cf53 h1) ⟨Nat.le_of_ble_eq_true rfl, Nat.le_of_ble_eq_true rfl⟩ ⟨rfl, rfl⟩ ⟨Nat.zero_le _, Nat.zero_le _⟩ rfl rfl (Nat.le_of_ble_eq_true rfl) dX4_placeOf_3 (fun H locs zr2 w => ?_)
  refine lv_iconst (v := 3) hx hb dX4_placeOf_6 (by decide) ?_
  refine lv_imul hx hb dX4_placeOf_7 ?_
  rw [hQ]
  exact rt_i X hr hlk w hsz rfl rfl rfl (lf1 hR) dX4_placeOf_8
/- LooseEnds$Memory.writeDay(LLooseEnds$State;)V -/
def fX4_writeDay (N : Nat) (S : SS) (k1 : Nat) : Option (SS) := bd (fX4_placeOf N (gi S k1 9)) fun r2 =>
  ck (inb r2 300) <|
  lt (pa S 25 r2 (gi S k1 6)) fun S4 =>
  ck (inb (r2 + 1) 300) <|
  lt (pa S4 25 (r2 + 1) (gi S4 k1 7)) fun S6 =>
  ck (inb (r2 + 2) 300) <|
  lt (pa S6 25 (r2 + 2) (gi S6 k1 8)) fun S8 =>
  some S8
set_option maxHeartbeats 4000000 in
set_option maxRecDepth 100000 in
theorem kX4_writeDay {l : Launch} {D : va_G} {dA : Nat → ClassId} {ad : Nat → Nat} {t1 t2 : Nat} {N : Nat} {k1 : Nat} (hk1 : k1 = 18 ∨ k1 = 30) {S T : SS} {o : Nat → Int64} {S' : SS} (hR : fX4_writeDay N S k1 = some S') : KV l D dA ad t1 t2 yX4_writeDay cX4_writeDay 3 { frames := 2, cells := 0, slots := 0, locals := 42 } [.ref (ad 23), .ref (ad k1)] S T o S' T := by
  intro sz
  refine en_ (plainFor_of_name (by decide)) (Nat.le_of_ble_eq_true rfl) ?_
  intro p ev s m args below meth c QQ hQ hsz X hr hlk w ls hl
  have hx := X.1
  have hb := X.2.1
  have hl : lv_has ls 3 [(0, .ref (ad 23)), (1, .ref (ad k1))] := hl
  unfold fX4_writeDay at hR
  refine lv_aload_n hx hb dX4_writeDay_0 rfl (lv_at hl 1 rfl) ?_
  refine gX8_day hk1 X w lfX4_53 dX4_writeDay_1 ?_
  obtain ⟨r2, h1, hR⟩ := bd_e hR
  refine cSi (As := [.int (gi S k1 9)]) (rest := []) X hl.1 w okX4_placeOf lmX4_56 (kX4_placeOf h1) ⟨Nat.le_of_ble_eq_true rfl, Nat.le_of_ble_eq_true rfl⟩ ⟨rfl, rfl⟩ ⟨Nat.zero_le _, Nat.zero_le _⟩ rfl rfl (Nat.le_of_ble_eq_true rfl) dX4_writeDay_4 (fun H locs zr2 w => ?_)
  refine lv_istore_n (lv' := [(2, .int r2), (0, .ref (ad 23)), (1, .ref (ad k1))]) hx hb dX4_writeDay_7 rfl hl (by decide) rfl (fun ls hl => ?_)
  refine lv_aload_n hx hb dX4_writeDay_8 rfl (lv_at hl 1 rfl) ?_
  refine gX4_logged X w lfX4_17 dX4_writeDay_9 ?_
  refine lv_iload_n hx hb dX4_writeDay_12 rfl (lv_at hl 0 rfl) ?_
  refine lv_aload_n hx hb dX4_writeDay_13 rfl (lv_at hl 2 rfl) ?_
  refine gX8_tries hk1 X w lfX4_60 dX4_writeDay_14 ?_
  obtain ⟨g3, hR⟩ := ck_e hR
  obtain ⟨S4, eS4, hR⟩ := lt_e hR
  refine iasS (n := 300) rfl (by decide) X w rfl g3 dX4_writeDay_17 (fun H locs w => ?_)
  rw [← eS4] at w
  refine lv_aload_n hx hb dX4_writeDay_18 rfl (lv_at hl 1 rfl) ?_
  refine gX4_logged X w lfX4_17 dX4_writeDay_19 ?_
  refine lv_iload_n hx hb dX4_writeDay_22 rfl (lv_at hl 0 rfl) ?_
  refine lv_iconst (v := 1) hx hb dX4_writeDay_23 (by decide) ?_
  refine lv_iadd hx hb dX4_writeDay_24 ?_
  refine lv_aload_n hx hb dX4_writeDay_25 rfl (lv_at hl 2 rfl) ?_
  refine gX8_made hk1 X w lfX4_63 dX4_writeDay_26 ?_
  obtain ⟨g5, hR⟩ := ck_e hR
  obtain ⟨S6, eS6, hR⟩ := lt_e hR
  refine iasS (n := 300) rfl (by decide) X w rfl g5 dX4_writeDay_29 (fun H locs w => ?_)
  rw [← eS6] at w
  refine lv_aload_n hx hb dX4_writeDay_30 rfl (lv_at hl 1 rfl) ?_
  refine gX4_logged X w lfX4_17 dX4_writeDay_31 ?_
  refine lv_iload_n hx hb dX4_writeDay_34 rfl (lv_at hl 0 rfl) ?_
  refine lv_iconst (v := 2) hx hb dX4_writeDay_35 (by decide) ?_
  refine lv_iadd hx hb dX4_writeDay_36 ?_
  refine lv_aload_n hx hb dX4_writeDay_37 rfl (lv_at hl 2 rfl) ?_
  refine gX8_coins hk1 X w lfX4_66 dX4_writeDay_38 ?_
  obtain ⟨g7, hR⟩ := ck_e hR
  obtain ⟨S8, eS8, hR⟩ := lt_e hR
  refine iasS (n := 300) rfl (by decide) X w rfl g7 dX4_writeDay_41 (fun H locs w => ?_)
  rw [← eS8] at w
  rw [hQ]
  exact rt_v X hr hlk w hsz (lf1 hR) rfl dX4_writeDay_42
/- LooseEnds$Memory.readDay(III)I -/
def fX4_readDay (N : Nat) (S : SS) (p1 : Int32) (p2 : Int32) (p3 : Int32) : Option (Int32) := if p2 < 0 then
  (some (-1))
  else
  (bd (fX4_loggedBy N p1) fun r3 =>
  if r3 ≤ p2 then
  (some (-1))
  else
  (if p3 < 0 then
  (some (-1))
  else
  (if p3 < 3 then
  (bd (fX4_placeOf N ((p1 - 1) - p2)) fun r8 =>
  ck (inb (r8 + p3) 300) <|
  some (ga S 25 (r8 + p3)))
  else
  (some (-1)))))
set_option maxHeartbeats 4000000 in
set_option maxRecDepth 100000 in
theorem kX4_readDay {l : Launch} {D : va_G} {dA : Nat → ClassId} {ad : Nat → Nat} {t1 t2 : Nat} {N : Nat} {S T : SS} {o : Nat → Int64} {p1 : Int32} {p2 : Int32} {p3 : Int32} {r : Int32} (hR : fX4_readDay N S p1 p2 p3 = some r) : KI l D dA ad t1 t2 yX4_readDay cX4_readDay 4 .int { frames := 2, cells := 0, slots := 0, locals := 42 } [.ref (ad 23), .int p1, .int p2, .int p3] S T o r S T := by
  intro sz
  refine en_ (plainFor_of_name (by decide)) (Nat.le_of_ble_eq_true rfl) ?_
  intro p ev s m args below meth c QQ hQ hsz X hr hlk w ls hl
  have hx := X.1
  have hb := X.2.1
  have hl : lv_has ls 4 [(0, .ref (ad 23)), (1, .int p1), (2, .int p2), (3, .int p3)] := hl
  unfold fX4_readDay at hR
  refine lv_iload_n hx hb dX4_readDay_0 rfl (lv_at hl 2 rfl) ?_
  refine lv_if_lt (tgt := 21) hx hb dX4_readDay_1 (by decide) (fun c1 => ?_) (fun c1 => ?_)
  · rw [if_pos c1] at hR
    refine lv_iconst (v := -1) hx hb dX4_readDay_21 (by decide) ?_
    rw [hQ]
    exact rt_i X hr hlk w hsz rfl rfl rfl (lf1 hR) dX4_readDay_22
  · rw [if_neg c1] at hR
    refine lv_iload_n hx hb dX4_readDay_4 rfl (lv_at hl 2 rfl) ?_
    refine lv_iload_n hx hb dX4_readDay_5 rfl (lv_at hl 1 rfl) ?_
    obtain ⟨r3, h2, hR⟩ := bd_e hR
    refine cSi (As := [.int p1]) (rest := [.int p2]) X hl.1 w okX4_loggedBy lmX4_69 (kX4_loggedBy h2) ⟨Nat.le_of_ble_eq_true rfl, Nat.le_of_ble_eq_true rfl⟩ ⟨rfl, rfl⟩ ⟨Nat.zero_le _, Nat.zero_le _⟩ rfl rfl (Nat.le_of_ble_eq_true rfl) dX4_readDay_6 (fun H locs zr3 w => ?_)
    refine lv_icmp_ge (tgt := 21) hx hb dX4_readDay_9 (by decide) (fun c4 => ?_) (fun c4 => ?_)
    · rw [if_pos c4] at hR
      refine lv_iconst (v := -1) hx hb dX4_readDay_21 (by decide) ?_
      rw [hQ]
      exact rt_i X hr hlk w hsz rfl rfl rfl (lf1 hR) dX4_readDay_22
    · rw [if_neg c4] at hR
      refine lv_iload_n hx hb dX4_readDay_12 rfl (lv_at hl 3 rfl) ?_
      refine lv_if_lt (tgt := 21) hx hb dX4_readDay_13 (by decide) (fun c5 => ?_) (fun c5 => ?_)
      · rw [if_pos c5] at hR
        refine lv_iconst (v := -1) hx hb dX4_readDay_21 (by decide) ?_
        rw [hQ]
        exact rt_i X hr hlk w hsz rfl rfl rfl (lf1 hR) dX4_readDay_22
      · rw [if_neg c5] at hR
        refine lv_iload_n hx hb dX4_readDay_16 rfl (lv_at hl 3 rfl) ?_
        refine lv_iconst (v := 3) hx hb dX4_readDay_17 (by decide) ?_
        refine lv_icmp_lt (tgt := 23) hx hb dX4_readDay_18 (by decide) (fun c6 => ?_) (fun c6 => ?_)
        · rw [if_pos c6] at hR
          refine lv_aload_n hx hb dX4_readDay_23 rfl (lv_at hl 0 rfl) ?_
          refine gX4_logged X w lfX4_17 dX4_readDay_24 ?_
          refine lv_iload_n hx hb dX4_readDay_27 rfl (lv_at hl 1 rfl) ?_
          refine lv_iconst (v := 1) hx hb dX4_readDay_28 (by decide) ?_
          refine lv_isub hx hb dX4_readDay_29 ?_
          refine lv_iload_n hx hb dX4_readDay_30 rfl (lv_at hl 2 rfl) ?_
          refine lv_isub hx hb dX4_readDay_31 ?_
          obtain ⟨r8, h7, hR⟩ := bd_e hR
          refine cSi (As := [.int ((p1 - 1) - p2)]) (rest := [.ref (ad 25)]) X hl.1 w okX4_placeOf lmX4_56 (kX4_placeOf h7) ⟨Nat.le_of_ble_eq_true rfl, Nat.le_of_ble_eq_true rfl⟩ ⟨rfl, rfl⟩ ⟨Nat.zero_le _, Nat.zero_le _⟩ rfl rfl (Nat.le_of_ble_eq_true rfl) dX4_readDay_32 (fun H locs zr8 w => ?_)
          refine lv_iload_n hx hb dX4_readDay_35 rfl (lv_at hl 3 rfl) ?_
          refine lv_iadd hx hb dX4_readDay_36 ?_
          obtain ⟨g9, hR⟩ := ck_e hR
          refine ialS (n := 300) rfl (by decide) X w rfl g9 dX4_readDay_37 ?_
          rw [hQ]
          exact rt_i X hr hlk w hsz rfl rfl rfl (lf1 hR) dX4_readDay_38
        · rw [if_neg c6] at hR
          refine lv_iconst (v := -1) hx hb dX4_readDay_21 (by decide) ?_
          rw [hQ]
          exact rt_i X hr hlk w hsz rfl rfl rfl (lf1 hR) dX4_readDay_22
/- LooseEnds$Memory.keepImage(LLooseEnds$State;)V -/
def fX4_keepImage (N : Nat) (S : SS) (k1 : Nat) : Option (SS) := bd (fX8_writeTo N S k1 26 0) fun S2 =>
  lt (cp S2 25 0 27 0 300) fun S3 =>
  lt (pj S3 23 4 1) fun S4 =>
  some S4
set_option maxHeartbeats 4000000 in
set_option maxRecDepth 100000 in
theorem kX4_keepImage {l : Launch} {D : va_G} {dA : Nat → ClassId} {ad : Nat → Nat} {t1 t2 : Nat} {N : Nat} {k1 : Nat} (hk1 : k1 = 18 ∨ k1 = 30) {S T : SS} {o : Nat → Int64} {S' : SS} (hR : fX4_keepImage N S k1 = some S') : KV l D dA ad t1 t2 yX4_keepImage cX4_keepImage 2 { frames := 2, cells := 0, slots := 0, locals := 63 } [.ref (ad 23), .ref (ad k1)] S T o S' T := by
  intro sz
  refine en_ (plainFor_of_name (by decide)) (Nat.le_of_ble_eq_true rfl) ?_
  intro p ev s m args below meth c QQ hQ hsz X hr hlk w ls hl
  have hx := X.1
  have hb := X.2.1
  have hl : lv_has ls 2 [(0, .ref (ad 23)), (1, .ref (ad k1))] := hl
  unfold fX4_keepImage at hR
  refine lv_aload_n hx hb dX4_keepImage_0 rfl (lv_at hl 1 rfl) ?_
  refine lv_aload_n hx hb dX4_keepImage_1 rfl (lv_at hl 0 rfl) ?_
  refine gX4_imaged X w lfX4_20 dX4_keepImage_2 ?_
  refine lv_iconst (v := 0) hx hb dX4_keepImage_5 (by decide) ?_
  obtain ⟨S2, h1, hR⟩ := bd_e hR
  refine cVv (k := k1) (As := [.ref (ad 26), .int 0]) (rest := []) X hl.1 w okX8_writeTo (obX8 hk1) rfl lmX4_37 (kX8_writeTo hk1 ⟨rfl, (by decide)⟩ h1) ⟨Nat.le_of_ble_eq_true rfl, Nat.le_of_ble_eq_true rfl⟩ ⟨rfl, rfl⟩ ⟨Nat.zero_le _, Nat.zero_le _⟩ rfl rfl (Nat.le_of_ble_eq_true rfl) dX4_keepImage_6 (fun H locs w => ?_)
  refine lv_aload_n hx hb dX4_keepImage_9 rfl (lv_at hl 0 rfl) ?_
  refine gX4_logged X w lfX4_17 dX4_keepImage_10 ?_
  refine lv_iconst (v := 0) hx hb dX4_keepImage_13 (by decide) ?_
  refine lv_aload_n hx hb dX4_keepImage_14 rfl (lv_at hl 0 rfl) ?_
  refine gX4_imagedLog X w lfX4_23 dX4_keepImage_15 ?_
  refine lv_iconst (v := 0) hx hb dX4_keepImage_18 (by decide) ?_
  refine lv_aload_n hx hb dX4_keepImage_19 rfl (lv_at hl 0 rfl) ?_
  refine gX4_logged X w lfX4_17 dX4_keepImage_20 ?_
  refine lenS rfl (by decide) X w (v := 300) (by rw [show aln _ _ = 300 from rfl]; rfl) dX4_keepImage_23 ?_
  obtain ⟨S3, eS3, hR⟩ := lt_e hR
  refine cpS (n0 := 300) (n1 := 300) rfl (by decide) rfl (by decide) X hl.1 w lmX4_72 rfl rfl (by decide) (Nat.le_of_ble_eq_true rfl) (Nat.le_of_ble_eq_true rfl) dX4_keepImage_24 (fun H locs w => ?_)
  rw [← eS3] at w
  refine lv_aload_n hx hb dX4_keepImage_27 rfl (lv_at hl 0 rfl) ?_
  refine lv_iconst (v := 1) hx hb dX4_keepImage_28 (by decide) ?_
  obtain ⟨S4, eS4, hR⟩ := lt_e hR
  refine pX4_hasImage ⟨rfl, rfl⟩ X w lfX4_33 dX4_keepImage_29 (fun H locs w => ?_)
  rw [← eS4] at w
  rw [hQ]
  exact rt_v X hr hlk w hsz (lf1 hR) rfl dX4_keepImage_32
/- LooseEnds$Memory.bringBackImage(LLooseEnds$State;)Z -/
def fX4_bringBackImage (N : Nat) (S : SS) (k1 : Nat) : Option (SS × Int32) := if (gi S 23 4) = 0 then
  (some (S, 0))
  else
  (bd (fX8_readFrom N S k1 26 0) fun S3 =>
  lt (cp S3 27 0 25 0 300) fun S4 =>
  lt (pj S4 23 6 0) fun S5 =>
  some (S5, 1))
set_option maxHeartbeats 4000000 in
set_option maxRecDepth 100000 in
theorem kX4_bringBackImage {l : Launch} {D : va_G} {dA : Nat → ClassId} {ad : Nat → Nat} {t1 t2 : Nat} {N : Nat} {k1 : Nat} (hk1 : k1 = 18 ∨ k1 = 30) {S T : SS} {o : Nat → Int64} {r : Int32} {S' : SS} (hR : fX4_bringBackImage N S k1 = some (S', r)) : KI l D dA ad t1 t2 yX4_bringBackImage cX4_bringBackImage 2 .boolean { frames := 2, cells := 0, slots := 0, locals := 63 } [.ref (ad 23), .ref (ad k1)] S T o r S' T := by
  intro sz
  refine en_ (plainFor_of_name (by decide)) (Nat.le_of_ble_eq_true rfl) ?_
  intro p ev s m args below meth c QQ hQ hsz X hr hlk w ls hl
  have hx := X.1
  have hb := X.2.1
  have hl : lv_has ls 2 [(0, .ref (ad 23)), (1, .ref (ad k1))] := hl
  unfold fX4_bringBackImage at hR
  refine lv_aload_n hx hb dX4_bringBackImage_0 rfl (lv_at hl 0 rfl) ?_
  refine gX4_hasImage X w lfX4_33 dX4_bringBackImage_1 ?_
  refine lv_if_ne (tgt := 9) hx hb dX4_bringBackImage_4 (by decide) (fun c1 => ?_) (fun c1 => ?_)
  · rw [if_neg c1] at hR
    refine lv_aload_n hx hb dX4_bringBackImage_9 rfl (lv_at hl 1 rfl) ?_
    refine lv_aload_n hx hb dX4_bringBackImage_10 rfl (lv_at hl 0 rfl) ?_
    refine gX4_imaged X w lfX4_20 dX4_bringBackImage_11 ?_
    refine lv_iconst (v := 0) hx hb dX4_bringBackImage_14 (by decide) ?_
    obtain ⟨S3, h2, hR⟩ := bd_e hR
    refine cVv (k := k1) (As := [.ref (ad 26), .int 0]) (rest := []) X hl.1 w okX8_readFrom (obX8 hk1) rfl lmX4_47 (kX8_readFrom hk1 ⟨rfl, (by decide)⟩ h2) ⟨Nat.le_of_ble_eq_true rfl, Nat.le_of_ble_eq_true rfl⟩ ⟨rfl, rfl⟩ ⟨Nat.zero_le _, Nat.zero_le _⟩ rfl rfl (Nat.le_of_ble_eq_true rfl) dX4_bringBackImage_15 (fun H locs w => ?_)
    refine lv_aload_n hx hb dX4_bringBackImage_18 rfl (lv_at hl 0 rfl) ?_
    refine gX4_imagedLog X w lfX4_23 dX4_bringBackImage_19 ?_
    refine lv_iconst (v := 0) hx hb dX4_bringBackImage_22 (by decide) ?_
    refine lv_aload_n hx hb dX4_bringBackImage_23 rfl (lv_at hl 0 rfl) ?_
    refine gX4_logged X w lfX4_17 dX4_bringBackImage_24 ?_
    refine lv_iconst (v := 0) hx hb dX4_bringBackImage_27 (by decide) ?_
    refine lv_aload_n hx hb dX4_bringBackImage_28 rfl (lv_at hl 0 rfl) ?_
    refine gX4_logged X w lfX4_17 dX4_bringBackImage_29 ?_
    refine lenS rfl (by decide) X w (v := 300) (by rw [show aln _ _ = 300 from rfl]; rfl) dX4_bringBackImage_32 ?_
    obtain ⟨S4, eS4, hR⟩ := lt_e hR
    refine cpS (n0 := 300) (n1 := 300) rfl (by decide) rfl (by decide) X hl.1 w lmX4_72 rfl rfl (by decide) (Nat.le_of_ble_eq_true rfl) (Nat.le_of_ble_eq_true rfl) dX4_bringBackImage_33 (fun H locs w => ?_)
    rw [← eS4] at w
    refine lv_aload_n hx hb dX4_bringBackImage_36 rfl (lv_at hl 0 rfl) ?_
    refine lv_iconst (v := 0) hx hb dX4_bringBackImage_37 (by decide) ?_
    obtain ⟨S5, eS5, hR⟩ := lt_e hR
    refine pX4_size X w lfX4_26 dX4_bringBackImage_38 (fun H locs w => ?_)
    rw [← eS5] at w
    refine lv_iconst (v := 1) hx hb dX4_bringBackImage_41 (by decide) ?_
    rw [hQ]
    exact rt_i X hr hlk w hsz rfl (lf2 hR).1 rfl (lf2 hR).2 dX4_bringBackImage_42
  · rw [if_pos c1] at hR
    refine lv_iconst (v := 0) hx hb dX4_bringBackImage_7 (by decide) ?_
    rw [hQ]
    exact rt_i X hr hlk w hsz rfl (lf2 hR).1 rfl (lf2 hR).2 dX4_bringBackImage_8
/- LooseEnds$Mill.isThere()Z -/
def fX5_isThere (N : Nat) (S : SS) (k0 : Nat) : Option (Int32) := if (gi S k0 0) ≤ 0 then
  (some 0)
  else
  (some 1)
set_option maxHeartbeats 4000000 in
set_option maxRecDepth 100000 in
theorem kX5_isThere {l : Launch} {D : va_G} {dA : Nat → ClassId} {ad : Nat → Nat} {t1 t2 : Nat} {N : Nat} {k0 : Nat} (hk0 : k0 = 3 ∨ k0 = 8) {S T : SS} {o : Nat → Int64} {r : Int32} (hR : fX5_isThere N S k0 = some r) : KI l D dA ad t1 t2 yX5_isThere cX5_isThere 1 .boolean { frames := 0, cells := 0, slots := 0, locals := 0 } [.ref (ad k0)] S T o r S T := by
  intro sz
  refine en_ (plainFor_of_name (by decide)) (Nat.le_of_ble_eq_true rfl) ?_
  intro p ev s m args below meth c QQ hQ hsz X hr hlk w ls hl
  have hx := X.1
  have hb := X.2.1
  have hl : lv_has ls 1 [(0, .ref (ad k0))] := hl
  unfold fX5_isThere at hR
  refine lv_aload_n hx hb dX5_isThere_0 rfl (lv_at hl 0 rfl) ?_
  refine gX5_ends hk0 X w lfX5_21 dX5_isThere_1 ?_
  refine lv_if_le (tgt := 11) hx hb dX5_isThere_4 (by decide) (fun c1 => ?_) (fun c1 => ?_)
  · rw [if_pos c1] at hR
    refine lv_iconst (v := 0) hx hb dX5_isThere_11 (by decide) ?_
    rw [hQ]
    exact rt_i X hr hlk w hsz rfl rfl rfl (lf1 hR) dX5_isThere_12
  · rw [if_neg c1] at hR
    refine lv_iconst (v := 1) hx hb dX5_isThere_7 (by decide) ?_
    refine lv_goto (tgt := 12) hx hb dX5_isThere_8 (by decide) ?_
    rw [hQ]
    exact rt_i X hr hlk w hsz rfl rfl rfl (lf1 hR) dX5_isThere_12
/- LooseEnds$Mill.has(I)Z -/
def fX5_has (N : Nat) (S : SS) (k0 : Nat) (p1 : Int32) : Option (Int32) := if p1 < 0 then
  (some 0)
  else
  (if (gi S k0 0) ≤ p1 then
  (some 0)
  else
  (some 1))
set_option maxHeartbeats 4000000 in
set_option maxRecDepth 100000 in
theorem kX5_has {l : Launch} {D : va_G} {dA : Nat → ClassId} {ad : Nat → Nat} {t1 t2 : Nat} {N : Nat} {k0 : Nat} (hk0 : k0 = 3 ∨ k0 = 8) {S T : SS} {o : Nat → Int64} {p1 : Int32} {r : Int32} (hR : fX5_has N S k0 p1 = some r) : KI l D dA ad t1 t2 yX5_has cX5_has 2 .boolean { frames := 0, cells := 0, slots := 0, locals := 0 } [.ref (ad k0), .int p1] S T o r S T := by
  intro sz
  refine en_ (plainFor_of_name (by decide)) (Nat.le_of_ble_eq_true rfl) ?_
  intro p ev s m args below meth c QQ hQ hsz X hr hlk w ls hl
  have hx := X.1
  have hb := X.2.1
  have hl : lv_has ls 2 [(0, .ref (ad k0)), (1, .int p1)] := hl
  unfold fX5_has at hR
  refine lv_iload_n hx hb dX5_has_0 rfl (lv_at hl 1 rfl) ?_
  refine lv_if_lt (tgt := 16) hx hb dX5_has_1 (by decide) (fun c1 => ?_) (fun c1 => ?_)
  · rw [if_pos c1] at hR
    refine lv_iconst (v := 0) hx hb dX5_has_16 (by decide) ?_
    rw [hQ]
    exact rt_i X hr hlk w hsz rfl rfl rfl (lf1 hR) dX5_has_17
  · rw [if_neg c1] at hR
    refine lv_iload_n hx hb dX5_has_4 rfl (lv_at hl 1 rfl) ?_
    refine lv_aload_n hx hb dX5_has_5 rfl (lv_at hl 0 rfl) ?_
    refine gX5_ends hk0 X w lfX5_21 dX5_has_6 ?_
    refine lv_icmp_ge (tgt := 16) hx hb dX5_has_9 (by decide) (fun c2 => ?_) (fun c2 => ?_)
    · rw [if_pos c2] at hR
      refine lv_iconst (v := 0) hx hb dX5_has_16 (by decide) ?_
      rw [hQ]
      exact rt_i X hr hlk w hsz rfl rfl rfl (lf1 hR) dX5_has_17
    · rw [if_neg c2] at hR
      refine lv_iconst (v := 1) hx hb dX5_has_12 (by decide) ?_
      refine lv_goto (tgt := 17) hx hb dX5_has_13 (by decide) ?_
      rw [hQ]
      exact rt_i X hr hlk w hsz rfl rfl rfl (lf1 hR) dX5_has_17
/- LooseEnds$Mill.clear()V -/
def fX5_clear (N : Nat) (S : SS) (k0 : Nat) : Option (SS) := lt (pj S k0 0 0) fun S1 =>
  lt (pj S1 k0 1 2) fun S2 =>
  lt (pj S2 k0 2 1) fun S3 =>
  lt (pj S3 k0 3 4) fun S4 =>
  lt (pj S4 k0 4 20) fun S5 =>
  some S5
set_option maxHeartbeats 4000000 in
set_option maxRecDepth 100000 in
theorem kX5_clear {l : Launch} {D : va_G} {dA : Nat → ClassId} {ad : Nat → Nat} {t1 t2 : Nat} {N : Nat} {k0 : Nat} (hk0 : k0 = 3 ∨ k0 = 8) {S T : SS} {o : Nat → Int64} {S' : SS} (hR : fX5_clear N S k0 = some S') : KV l D dA ad t1 t2 yX5_clear cX5_clear 1 { frames := 0, cells := 0, slots := 0, locals := 0 } [.ref (ad k0)] S T o S' T := by
  intro sz
  refine en_ (plainFor_of_name (by decide)) (Nat.le_of_ble_eq_true rfl) ?_
  intro p ev s m args below meth c QQ hQ hsz X hr hlk w ls hl
  have hx := X.1
  have hb := X.2.1
  have hl : lv_has ls 1 [(0, .ref (ad k0))] := hl
  unfold fX5_clear at hR
  refine lv_aload_n hx hb dX5_clear_0 rfl (lv_at hl 0 rfl) ?_
  refine lv_iconst (v := 0) hx hb dX5_clear_1 (by decide) ?_
  obtain ⟨S1, eS1, hR⟩ := lt_e hR
  refine pX5_ends hk0 X w lfX5_21 dX5_clear_2 (fun H locs w => ?_)
  rw [← eS1] at w
  refine lv_aload_n hx hb dX5_clear_5 rfl (lv_at hl 0 rfl) ?_
  refine lv_iconst (v := 2) hx hb dX5_clear_6 (by decide) ?_
  obtain ⟨S2, eS2, hR⟩ := lt_e hR
  refine pX5_pass hk0 X w lfX5_25 dX5_clear_7 (fun H locs w => ?_)
  rw [← eS2] at w
  refine lv_aload_n hx hb dX5_clear_10 rfl (lv_at hl 0 rfl) ?_
  refine lv_iconst (v := 1) hx hb dX5_clear_11 (by decide) ?_
  obtain ⟨S3, eS3, hR⟩ := lt_e hR
  refine pX5_fade hk0 X w lfX5_28 dX5_clear_12 (fun H locs w => ?_)
  rw [← eS3] at w
  refine lv_aload_n hx hb dX5_clear_15 rfl (lv_at hl 0 rfl) ?_
  refine lv_iconst (v := 4) hx hb dX5_clear_16 (by decide) ?_
  obtain ⟨S4, eS4, hR⟩ := lt_e hR
  refine pX5_girls hk0 X w lfX5_31 dX5_clear_17 (fun H locs w => ?_)
  rw [← eS4] at w
  refine lv_aload_n hx hb dX5_clear_20 rfl (lv_at hl 0 rfl) ?_
  refine lv_bipush (v := 20) hx hb dX5_clear_21 (by decide) ?_
  obtain ⟨S5, eS5, hR⟩ := lt_e hR
  refine pX5_coins hk0 X w lfX5_34 dX5_clear_23 (fun H locs w => ?_)
  rw [← eS5] at w
  rw [hQ]
  exact rt_v X hr hlk w hsz (lf1 hR) rfl dX5_clear_26
/- LooseEnds$Mill.addEnd()V -/
def fX5_addEnd (N : Nat) (S : SS) (k0 : Nat) : Option (SS) := if 7 ≤ (gi S k0 0) then
  (some S)
  else
  (ck (inb (gi S k0 0) 7) <|
  lt (pa S (k0 + 1) (gi S k0 0) 10) fun S3 =>
  ck (inb (gi S3 k0 0) 7) <|
  lt (pa S3 (k0 + 2) (gi S3 k0 0) 2) fun S5 =>
  ck (inb (gi S5 k0 0) 7) <|
  lt (pa S5 (k0 + 3) (gi S5 k0 0) 5) fun S7 =>
  lt (pj S7 k0 0 ((gi S7 k0 0) + 1)) fun S8 =>
  some S8)
set_option maxHeartbeats 4000000 in
set_option maxRecDepth 100000 in
theorem kX5_addEnd {l : Launch} {D : va_G} {dA : Nat → ClassId} {ad : Nat → Nat} {t1 t2 : Nat} {N : Nat} {k0 : Nat} (hk0 : k0 = 3 ∨ k0 = 8) {S T : SS} {o : Nat → Int64} {S' : SS} (hR : fX5_addEnd N S k0 = some S') : KV l D dA ad t1 t2 yX5_addEnd cX5_addEnd 1 { frames := 0, cells := 0, slots := 0, locals := 0 } [.ref (ad k0)] S T o S' T := by
  intro sz
  refine en_ (plainFor_of_name (by decide)) (Nat.le_of_ble_eq_true rfl) ?_
  intro p ev s m args below meth c QQ hQ hsz X hr hlk w ls hl
  have hx := X.1
  have hb := X.2.1
  have hl : lv_has ls 1 [(0, .ref (ad k0))] := hl
  unfold fX5_addEnd at hR
  refine lv_aload_n hx hb dX5_addEnd_0 rfl (lv_at hl 0 rfl) ?_
  refine gX5_ends hk0 X w lfX5_21 dX5_addEnd_1 ?_
  refine lv_bipush (v := 7) hx hb dX5_addEnd_4 (by decide) ?_
  refine lv_icmp_ge (tgt := 50) hx hb dX5_addEnd_6 (by decide) (fun c1 => ?_) (fun c1 => ?_)
  · rw [if_pos c1] at hR
    rw [hQ]
    exact rt_v X hr hlk w hsz (lf1 hR) rfl dX5_addEnd_50
  · rw [if_neg c1] at hR
    refine lv_aload_n hx hb dX5_addEnd_9 rfl (lv_at hl 0 rfl) ?_
    refine gX5_colours hk0 X w lfX5_9 dX5_addEnd_10 ?_
    refine lv_aload_n hx hb dX5_addEnd_13 rfl (lv_at hl 0 rfl) ?_
    refine gX5_ends hk0 X w lfX5_21 dX5_addEnd_14 ?_
    refine lv_bipush (v := 10) hx hb dX5_addEnd_17 (by decide) ?_
    obtain ⟨g2, hR⟩ := ck_e hR
    obtain ⟨S3, eS3, hR⟩ := lt_e hR
    refine iasS (n := 7) (ikX5_1 hk0) (lkX5_1 hk0) X w (nkX5_1 hk0) g2 dX5_addEnd_19 (fun H locs w => ?_)
    rw [← eS3] at w
    refine lv_aload_n hx hb dX5_addEnd_20 rfl (lv_at hl 0 rfl) ?_
    refine gX5_plies hk0 X w lfX5_15 dX5_addEnd_21 ?_
    refine lv_aload_n hx hb dX5_addEnd_24 rfl (lv_at hl 0 rfl) ?_
    refine gX5_ends hk0 X w lfX5_21 dX5_addEnd_25 ?_
    refine lv_iconst (v := 2) hx hb dX5_addEnd_28 (by decide) ?_
    obtain ⟨g4, hR⟩ := ck_e hR
    obtain ⟨S5, eS5, hR⟩ := lt_e hR
    refine iasS (n := 7) (ikX5_2 hk0) (lkX5_2 hk0) X w (nkX5_2 hk0) g4 dX5_addEnd_29 (fun H locs w => ?_)
    rw [← eS5] at w
    refine lv_aload_n hx hb dX5_addEnd_30 rfl (lv_at hl 0 rfl) ?_
    refine gX5_lengths hk0 X w lfX5_18 dX5_addEnd_31 ?_
    refine lv_aload_n hx hb dX5_addEnd_34 rfl (lv_at hl 0 rfl) ?_
    refine gX5_ends hk0 X w lfX5_21 dX5_addEnd_35 ?_
    refine lv_iconst (v := 5) hx hb dX5_addEnd_38 (by decide) ?_
    obtain ⟨g6, hR⟩ := ck_e hR
    obtain ⟨S7, eS7, hR⟩ := lt_e hR
    refine iasS (n := 7) (ikX5_3 hk0) (lkX5_3 hk0) X w (nkX5_3 hk0) g6 dX5_addEnd_39 (fun H locs w => ?_)
    rw [← eS7] at w
    refine lv_aload_n hx hb dX5_addEnd_40 rfl (lv_at hl 0 rfl) ?_
    refine lv_dup hx hb dX5_addEnd_41 rfl ?_
    refine gX5_ends hk0 X w lfX5_21 dX5_addEnd_42 ?_
    refine lv_iconst (v := 1) hx hb dX5_addEnd_45 (by decide) ?_
    refine lv_iadd hx hb dX5_addEnd_46 ?_
    obtain ⟨S8, eS8, hR⟩ := lt_e hR
    refine pX5_ends hk0 X w lfX5_21 dX5_addEnd_47 (fun H locs w => ?_)
    rw [← eS8] at w
    rw [hQ]
    exact rt_v X hr hlk w hsz (lf1 hR) rfl dX5_addEnd_50
/- LooseEnds$Mill.copyFrom(LLooseEnds$Mill;)V -/
def fX5_copyFrom (N : Nat) (S : SS) (k0 : Nat) (k1 : Nat) : Option (SS) := lt (pj S k0 0 (gi S k1 0)) fun S1 =>
  lt (pj S1 k0 1 (gi S1 k1 1)) fun S2 =>
  lt (pj S2 k0 2 (gi S2 k1 2)) fun S3 =>
  lt (pj S3 k0 3 (gi S3 k1 3)) fun S4 =>
  lt (pj S4 k0 4 (gi S4 k1 4)) fun S5 =>
  lt (cp S5 (k1 + 1) 0 (k0 + 1) 0 7) fun S6 =>
  lt (cp S6 (k1 + 2) 0 (k0 + 2) 0 7) fun S7 =>
  lt (cp S7 (k1 + 3) 0 (k0 + 3) 0 7) fun S8 =>
  some S8
set_option maxHeartbeats 4000000 in
set_option maxRecDepth 100000 in
theorem kX5_copyFrom {l : Launch} {D : va_G} {dA : Nat → ClassId} {ad : Nat → Nat} {t1 t2 : Nat} {N : Nat} {k0 : Nat} (hk0 : k0 = 3 ∨ k0 = 8) {k1 : Nat} (hk1 : k1 = 3 ∨ k1 = 8) {S T : SS} {o : Nat → Int64} {S' : SS} (hR : fX5_copyFrom N S k0 k1 = some S') : KV l D dA ad t1 t2 yX5_copyFrom cX5_copyFrom 2 { frames := 1, cells := 0, slots := 0, locals := 40 } [.ref (ad k0), .ref (ad k1)] S T o S' T := by
  intro sz
  refine en_ (plainFor_of_name (by decide)) (Nat.le_of_ble_eq_true rfl) ?_
  intro p ev s m args below meth c QQ hQ hsz X hr hlk w ls hl
  have hx := X.1
  have hb := X.2.1
  have hl : lv_has ls 2 [(0, .ref (ad k0)), (1, .ref (ad k1))] := hl
  unfold fX5_copyFrom at hR
  refine lv_aload_n hx hb dX5_copyFrom_0 rfl (lv_at hl 0 rfl) ?_
  refine lv_aload_n hx hb dX5_copyFrom_1 rfl (lv_at hl 1 rfl) ?_
  refine gX5_ends hk1 X w lfX5_21 dX5_copyFrom_2 ?_
  obtain ⟨S1, eS1, hR⟩ := lt_e hR
  refine pX5_ends hk0 X w lfX5_21 dX5_copyFrom_5 (fun H locs w => ?_)
  rw [← eS1] at w
  refine lv_aload_n hx hb dX5_copyFrom_8 rfl (lv_at hl 0 rfl) ?_
  refine lv_aload_n hx hb dX5_copyFrom_9 rfl (lv_at hl 1 rfl) ?_
  refine gX5_pass hk1 X w lfX5_25 dX5_copyFrom_10 ?_
  obtain ⟨S2, eS2, hR⟩ := lt_e hR
  refine pX5_pass hk0 X w lfX5_25 dX5_copyFrom_13 (fun H locs w => ?_)
  rw [← eS2] at w
  refine lv_aload_n hx hb dX5_copyFrom_16 rfl (lv_at hl 0 rfl) ?_
  refine lv_aload_n hx hb dX5_copyFrom_17 rfl (lv_at hl 1 rfl) ?_
  refine gX5_fade hk1 X w lfX5_28 dX5_copyFrom_18 ?_
  obtain ⟨S3, eS3, hR⟩ := lt_e hR
  refine pX5_fade hk0 X w lfX5_28 dX5_copyFrom_21 (fun H locs w => ?_)
  rw [← eS3] at w
  refine lv_aload_n hx hb dX5_copyFrom_24 rfl (lv_at hl 0 rfl) ?_
  refine lv_aload_n hx hb dX5_copyFrom_25 rfl (lv_at hl 1 rfl) ?_
  refine gX5_girls hk1 X w lfX5_31 dX5_copyFrom_26 ?_
  obtain ⟨S4, eS4, hR⟩ := lt_e hR
  refine pX5_girls hk0 X w lfX5_31 dX5_copyFrom_29 (fun H locs w => ?_)
  rw [← eS4] at w
  refine lv_aload_n hx hb dX5_copyFrom_32 rfl (lv_at hl 0 rfl) ?_
  refine lv_aload_n hx hb dX5_copyFrom_33 rfl (lv_at hl 1 rfl) ?_
  refine gX5_coins hk1 X w lfX5_34 dX5_copyFrom_34 ?_
  obtain ⟨S5, eS5, hR⟩ := lt_e hR
  refine pX5_coins hk0 X w lfX5_34 dX5_copyFrom_37 (fun H locs w => ?_)
  rw [← eS5] at w
  refine lv_aload_n hx hb dX5_copyFrom_40 rfl (lv_at hl 1 rfl) ?_
  refine gX5_colours hk1 X w lfX5_9 dX5_copyFrom_41 ?_
  refine lv_iconst (v := 0) hx hb dX5_copyFrom_44 (by decide) ?_
  refine lv_aload_n hx hb dX5_copyFrom_45 rfl (lv_at hl 0 rfl) ?_
  refine gX5_colours hk0 X w lfX5_9 dX5_copyFrom_46 ?_
  refine lv_iconst (v := 0) hx hb dX5_copyFrom_49 (by decide) ?_
  refine lv_bipush (v := 7) hx hb dX5_copyFrom_50 (by decide) ?_
  obtain ⟨S6, eS6, hR⟩ := lt_e hR
  refine cpS (n0 := 7) (n1 := 7) (ikX5_1 hk1) (lkX5_1 hk1) (ikX5_1 hk0) (lkX5_1 hk0) X hl.1 w lmX5_37 (nkX5_1 hk1) (nkX5_1 hk0) (by decide) (Nat.le_of_ble_eq_true rfl) (Nat.le_of_ble_eq_true rfl) dX5_copyFrom_52 (fun H locs w => ?_)
  rw [← eS6] at w
  refine lv_aload_n hx hb dX5_copyFrom_55 rfl (lv_at hl 1 rfl) ?_
  refine gX5_plies hk1 X w lfX5_15 dX5_copyFrom_56 ?_
  refine lv_iconst (v := 0) hx hb dX5_copyFrom_59 (by decide) ?_
  refine lv_aload_n hx hb dX5_copyFrom_60 rfl (lv_at hl 0 rfl) ?_
  refine gX5_plies hk0 X w lfX5_15 dX5_copyFrom_61 ?_
  refine lv_iconst (v := 0) hx hb dX5_copyFrom_64 (by decide) ?_
  refine lv_bipush (v := 7) hx hb dX5_copyFrom_65 (by decide) ?_
  obtain ⟨S7, eS7, hR⟩ := lt_e hR
  refine cpS (n0 := 7) (n1 := 7) (ikX5_2 hk1) (lkX5_2 hk1) (ikX5_2 hk0) (lkX5_2 hk0) X hl.1 w lmX5_37 (nkX5_2 hk1) (nkX5_2 hk0) (by decide) (Nat.le_of_ble_eq_true rfl) (Nat.le_of_ble_eq_true rfl) dX5_copyFrom_67 (fun H locs w => ?_)
  rw [← eS7] at w
  refine lv_aload_n hx hb dX5_copyFrom_70 rfl (lv_at hl 1 rfl) ?_
  refine gX5_lengths hk1 X w lfX5_18 dX5_copyFrom_71 ?_
  refine lv_iconst (v := 0) hx hb dX5_copyFrom_74 (by decide) ?_
  refine lv_aload_n hx hb dX5_copyFrom_75 rfl (lv_at hl 0 rfl) ?_
  refine gX5_lengths hk0 X w lfX5_18 dX5_copyFrom_76 ?_
  refine lv_iconst (v := 0) hx hb dX5_copyFrom_79 (by decide) ?_
  refine lv_bipush (v := 7) hx hb dX5_copyFrom_80 (by decide) ?_
  obtain ⟨S8, eS8, hR⟩ := lt_e hR
  refine cpS (n0 := 7) (n1 := 7) (ikX5_3 hk1) (lkX5_3 hk1) (ikX5_3 hk0) (lkX5_3 hk0) X hl.1 w lmX5_37 (nkX5_3 hk1) (nkX5_3 hk0) (by decide) (Nat.le_of_ble_eq_true rfl) (Nat.le_of_ble_eq_true rfl) dX5_copyFrom_82 (fun H locs w => ?_)
  rw [← eS8] at w
  rw [hQ]
  exact rt_v X hr hlk w hsz (lf1 hR) rfl dX5_copyFrom_85
/- LooseEnds$MillReader.itemOf(II)I -/
def fX6_itemOf (N : Nat) (p0 : Int32) (p1 : Int32) : Option (Int32) := if p0 = 115 then
  (if p1 = 101 then
  (some 0)
  else
  (if p1 = 102 then
  (some 1)
  else
  (if p1 = 103 then
  (some 2)
  else
  (if p1 = 107 then
  (some 3)
  else
  (some (-1))))))
  else
  (if p1 = 99 then
  (some 4)
  else
  (if p1 = 108 then
  (some 6)
  else
  (if p1 = 112 then
  (some 5)
  else
  (some (-1)))))
set_option maxHeartbeats 4000000 in
set_option maxRecDepth 100000 in
theorem kX6_itemOf {l : Launch} {D : va_G} {dA : Nat → ClassId} {ad : Nat → Nat} {t1 t2 : Nat} {N : Nat} {S T : SS} {o : Nat → Int64} {p0 : Int32} {p1 : Int32} {r : Int32} (hR : fX6_itemOf N p0 p1 = some r) : KI l D dA ad t1 t2 yX6_itemOf cX6_itemOf 2 .int { frames := 0, cells := 0, slots := 0, locals := 0 } [.int p0, .int p1] S T o r S T := by
  intro sz
  refine en_ (plainFor_of_name (by decide)) (Nat.le_of_ble_eq_true rfl) ?_
  intro p ev s m args below meth c QQ hQ hsz X hr hlk w ls hl
  have hx := X.1
  have hb := X.2.1
  have hl : lv_has ls 2 [(0, .int p0), (1, .int p1)] := hl
  unfold fX6_itemOf at hR
  refine lv_iload_n hx hb dX6_itemOf_0 rfl (lv_at hl 0 rfl) ?_
  refine lv_bipush (v := 115) hx hb dX6_itemOf_1 (by decide) ?_
  refine lv_icmp_ne (tgt := 58) hx hb dX6_itemOf_3 (by decide) (fun c1 => ?_) (fun c1 => ?_)
  · rw [if_neg c1] at hR
    refine lv_iload_n hx hb dX6_itemOf_58 rfl (lv_at hl 1 rfl) ?_
    by_cases c2_0 : p1 = 99
    · rw [if_pos c2_0] at hR
      refine lv_lookup (tgt := 92) hx hb dX6_itemOf_59 (off := 33) (by decide) (by rw [c2_0]; decide) (by decide) ?_
      refine lv_iconst (v := 4) hx hb dX6_itemOf_92 (by decide) ?_
      rw [hQ]
      exact rt_i X hr hlk w hsz rfl rfl rfl (lf1 hR) dX6_itemOf_93
    · rw [if_neg c2_0] at hR
      by_cases c2_1 : p1 = 108
      · rw [if_pos c2_1] at hR
        refine lv_lookup (tgt := 96) hx hb dX6_itemOf_59 (off := 37) (by decide) (by rw [c2_1]; decide) (by decide) ?_
        refine lv_bipush (v := 6) hx hb dX6_itemOf_96 (by decide) ?_
        rw [hQ]
        exact rt_i X hr hlk w hsz rfl rfl rfl (lf1 hR) dX6_itemOf_98
      · rw [if_neg c2_1] at hR
        by_cases c2_2 : p1 = 112
        · rw [if_pos c2_2] at hR
          refine lv_lookup (tgt := 94) hx hb dX6_itemOf_59 (off := 35) (by decide) (by rw [c2_2]; decide) (by decide) ?_
          refine lv_iconst (v := 5) hx hb dX6_itemOf_94 (by decide) ?_
          rw [hQ]
          exact rt_i X hr hlk w hsz rfl rfl rfl (lf1 hR) dX6_itemOf_95
        · rw [if_neg c2_2] at hR
          have hh0 := ne_int (n := 99) (by decide) c2_0
          have hh1 := ne_int (n := 108) (by decide) c2_1
          have hh2 := ne_int (n := 112) (by decide) c2_2
          refine lv_lookup (tgt := 99) hx hb dX6_itemOf_59 (off := 40) (by decide) (by simp [Op.lookupswitch.offset, Ne.symm hh0, Ne.symm hh1, Ne.symm hh2]) (by decide) ?_
          refine lv_iconst (v := -1) hx hb dX6_itemOf_99 (by decide) ?_
          rw [hQ]
          exact rt_i X hr hlk w hsz rfl rfl rfl (lf1 hR) dX6_itemOf_100
  · rw [if_pos c1] at hR
    refine lv_iload_n hx hb dX6_itemOf_6 rfl (lv_at hl 1 rfl) ?_
    by_cases c3_0 : p1 = 101
    · rw [if_pos c3_0] at hR
      refine lv_tableIn (tgt := 48) hx hb dX6_itemOf_7 (by rw [c3_0]; decide) (by rw [c3_0]; decide) (by rw [c3_0]; rfl) (by decide) ?_
      refine lv_iconst (v := 0) hx hb dX6_itemOf_48 (by decide) ?_
      rw [hQ]
      exact rt_i X hr hlk w hsz rfl rfl rfl (lf1 hR) dX6_itemOf_49
    · rw [if_neg c3_0] at hR
      by_cases c3_1 : p1 = 102
      · rw [if_pos c3_1] at hR
        refine lv_tableIn (tgt := 50) hx hb dX6_itemOf_7 (by rw [c3_1]; decide) (by rw [c3_1]; decide) (by rw [c3_1]; rfl) (by decide) ?_
        refine lv_iconst (v := 1) hx hb dX6_itemOf_50 (by decide) ?_
        rw [hQ]
        exact rt_i X hr hlk w hsz rfl rfl rfl (lf1 hR) dX6_itemOf_51
      · rw [if_neg c3_1] at hR
        by_cases c3_2 : p1 = 103
        · rw [if_pos c3_2] at hR
          refine lv_tableIn (tgt := 52) hx hb dX6_itemOf_7 (by rw [c3_2]; decide) (by rw [c3_2]; decide) (by rw [c3_2]; rfl) (by decide) ?_
          refine lv_iconst (v := 2) hx hb dX6_itemOf_52 (by decide) ?_
          rw [hQ]
          exact rt_i X hr hlk w hsz rfl rfl rfl (lf1 hR) dX6_itemOf_53
        · rw [if_neg c3_2] at hR
          by_cases c3_3 : p1 = 107
          · rw [if_pos c3_3] at hR
            refine lv_tableIn (tgt := 54) hx hb dX6_itemOf_7 (by rw [c3_3]; decide) (by rw [c3_3]; decide) (by rw [c3_3]; rfl) (by decide) ?_
            refine lv_iconst (v := 3) hx hb dX6_itemOf_54 (by decide) ?_
            rw [hQ]
            exact rt_i X hr hlk w hsz rfl rfl rfl (lf1 hR) dX6_itemOf_55
          · rw [if_neg c3_3] at hR
            have hh0 := ne_int (n := 101) (by decide) c3_0
            have hh1 := ne_int (n := 102) (by decide) c3_1
            have hh2 := ne_int (n := 103) (by decide) c3_2
            have hh3 := ne_int (n := 107) (by decide) c3_3
            by_cases c3_g0 : p1 = 104
            · refine lv_tableIn (tgt := 56) hx hb dX6_itemOf_7 (by rw [c3_g0]; decide) (by rw [c3_g0]; decide) (by rw [c3_g0]; rfl) (by decide) ?_
              refine lv_iconst (v := -1) hx hb dX6_itemOf_56 (by decide) ?_
              rw [hQ]
              exact rt_i X hr hlk w hsz rfl rfl rfl (lf1 hR) dX6_itemOf_57
            have hg0 := ne_int (n := 104) (by decide) c3_g0
            by_cases c3_g1 : p1 = 105
            · refine lv_tableIn (tgt := 56) hx hb dX6_itemOf_7 (by rw [c3_g1]; decide) (by rw [c3_g1]; decide) (by rw [c3_g1]; rfl) (by decide) ?_
              refine lv_iconst (v := -1) hx hb dX6_itemOf_56 (by decide) ?_
              rw [hQ]
              exact rt_i X hr hlk w hsz rfl rfl rfl (lf1 hR) dX6_itemOf_57
            have hg1 := ne_int (n := 105) (by decide) c3_g1
            by_cases c3_g2 : p1 = 106
            · refine lv_tableIn (tgt := 56) hx hb dX6_itemOf_7 (by rw [c3_g2]; decide) (by rw [c3_g2]; decide) (by rw [c3_g2]; rfl) (by decide) ?_
              refine lv_iconst (v := -1) hx hb dX6_itemOf_56 (by decide) ?_
              rw [hQ]
              exact rt_i X hr hlk w hsz rfl rfl rfl (lf1 hR) dX6_itemOf_57
            have hg2 := ne_int (n := 106) (by decide) c3_g2
            refine lv_tableOut (tgt := 56) hx hb dX6_itemOf_7 (by omega) (by decide) ?_
            refine lv_iconst (v := -1) hx hb dX6_itemOf_56 (by decide) ?_
            rw [hQ]
            exact rt_i X hr hlk w hsz rfl rfl rfl (lf1 hR) dX6_itemOf_57
/- LooseEnds$MillReader.writeOfEnd(III)V -/
def fX6_writeOfEnd (N : Nat) (S : SS) (p1 : Int32) (p2 : Int32) (p3 : Int32) : Option (SS) := if p1 = 4 then
  (ck (inb p2 7) <|
  lt (pa S 9 p2 p3) fun S8 =>
  some S8)
  else
  (if p1 = 5 then
  (ck (inb p2 7) <|
  lt (pa S 10 p2 p3) fun S6 =>
  some S6)
  else
  (ck (inb p2 7) <|
  lt (pa S 11 p2 p3) fun S4 =>
  some S4))
set_option maxHeartbeats 4000000 in
set_option maxRecDepth 100000 in
theorem kX6_writeOfEnd {l : Launch} {D : va_G} {dA : Nat → ClassId} {ad : Nat → Nat} {t1 t2 : Nat} {N : Nat} {S T : SS} {o : Nat → Int64} {p1 : Int32} {p2 : Int32} {p3 : Int32} {S' : SS} (hR : fX6_writeOfEnd N S p1 p2 p3 = some S') : KV l D dA ad t1 t2 yX6_writeOfEnd cX6_writeOfEnd 4 { frames := 0, cells := 0, slots := 0, locals := 0 } [.ref (ad 7), .int p1, .int p2, .int p3] S T o S' T := by
  intro sz
  refine en_ (plainFor_of_name (by decide)) (Nat.le_of_ble_eq_true rfl) ?_
  intro p ev s m args below meth c QQ hQ hsz X hr hlk w ls hl
  have hx := X.1
  have hb := X.2.1
  have hl : lv_has ls 4 [(0, .ref (ad 7)), (1, .int p1), (2, .int p2), (3, .int p3)] := hl
  unfold fX6_writeOfEnd at hR
  refine lv_iload_n hx hb dX6_writeOfEnd_0 rfl (lv_at hl 1 rfl) ?_
  refine lv_iconst (v := 4) hx hb dX6_writeOfEnd_1 (by decide) ?_
  refine lv_icmp_ne (tgt := 18) hx hb dX6_writeOfEnd_2 (by decide) (fun c1 => ?_) (fun c1 => ?_)
  · rw [if_neg c1] at hR
    refine lv_iload_n hx hb dX6_writeOfEnd_18 rfl (lv_at hl 1 rfl) ?_
    refine lv_iconst (v := 5) hx hb dX6_writeOfEnd_19 (by decide) ?_
    refine lv_icmp_ne (tgt := 36) hx hb dX6_writeOfEnd_20 (by decide) (fun c2 => ?_) (fun c2 => ?_)
    · rw [if_neg c2] at hR
      refine lv_aload_n hx hb dX6_writeOfEnd_36 rfl (lv_at hl 0 rfl) ?_
      refine gX6_draft X w lfX6_12 dX6_writeOfEnd_37 ?_
      refine gX5_lengths (Or.inr rfl) X w lfX6_92 dX6_writeOfEnd_40 ?_
      refine lv_iload_n hx hb dX6_writeOfEnd_43 rfl (lv_at hl 2 rfl) ?_
      refine lv_iload_n hx hb dX6_writeOfEnd_44 rfl (lv_at hl 3 rfl) ?_
      obtain ⟨g3, hR⟩ := ck_e hR
      obtain ⟨S4, eS4, hR⟩ := lt_e hR
      refine iasS (n := 7) rfl (by decide) X w rfl g3 dX6_writeOfEnd_45 (fun H locs w => ?_)
      rw [← eS4] at w
      rw [hQ]
      exact rt_v X hr hlk w hsz (lf1 hR) rfl dX6_writeOfEnd_46
    · rw [if_pos c2] at hR
      refine lv_aload_n hx hb dX6_writeOfEnd_23 rfl (lv_at hl 0 rfl) ?_
      refine gX6_draft X w lfX6_12 dX6_writeOfEnd_24 ?_
      refine gX5_plies (Or.inr rfl) X w lfX6_89 dX6_writeOfEnd_27 ?_
      refine lv_iload_n hx hb dX6_writeOfEnd_30 rfl (lv_at hl 2 rfl) ?_
      refine lv_iload_n hx hb dX6_writeOfEnd_31 rfl (lv_at hl 3 rfl) ?_
      obtain ⟨g5, hR⟩ := ck_e hR
      obtain ⟨S6, eS6, hR⟩ := lt_e hR
      refine iasS (n := 7) rfl (by decide) X w rfl g5 dX6_writeOfEnd_32 (fun H locs w => ?_)
      rw [← eS6] at w
      refine lv_goto (tgt := 46) hx hb dX6_writeOfEnd_33 (by decide) ?_
      rw [hQ]
      exact rt_v X hr hlk w hsz (lf1 hR) rfl dX6_writeOfEnd_46
  · rw [if_pos c1] at hR
    refine lv_aload_n hx hb dX6_writeOfEnd_5 rfl (lv_at hl 0 rfl) ?_
    refine gX6_draft X w lfX6_12 dX6_writeOfEnd_6 ?_
    refine gX5_colours (Or.inr rfl) X w lfX6_86 dX6_writeOfEnd_9 ?_
    refine lv_iload_n hx hb dX6_writeOfEnd_12 rfl (lv_at hl 2 rfl) ?_
    refine lv_iload_n hx hb dX6_writeOfEnd_13 rfl (lv_at hl 3 rfl) ?_
    obtain ⟨g7, hR⟩ := ck_e hR
    obtain ⟨S8, eS8, hR⟩ := lt_e hR
    refine iasS (n := 7) rfl (by decide) X w rfl g7 dX6_writeOfEnd_14 (fun H locs w => ?_)
    rw [← eS8] at w
    refine lv_goto (tgt := 46) hx hb dX6_writeOfEnd_15 (by decide) ?_
    rw [hQ]
    exact rt_v X hr hlk w hsz (lf1 hR) rfl dX6_writeOfEnd_46
/- LooseEnds$MillReader.write(II)V -/
def fX6_write (N : Nat) (S : SS) (p1 : Int32) (p2 : Int32) : Option (SS) := lt ((gi S 8 0) - 1) fun v1 =>
  if p1 = 0 then
  (lt (pj S 8 1 p2) fun S12 =>
  some S12)
  else
  (if p1 = 1 then
  (lt (pj S 8 2 p2) fun S11 =>
  some S11)
  else
  (if p1 = 2 then
  (lt (pj S 8 3 p2) fun S10 =>
  some S10)
  else
  (if p1 = 3 then
  (lt (pj S 8 4 p2) fun S9 =>
  some S9)
  else
  (if v1 < 0 then
  (some S)
  else
  (bd (fX6_writeOfEnd N S p1 v1 p2) fun S8 =>
  some S8)))))
set_option maxHeartbeats 4000000 in
set_option maxRecDepth 100000 in
theorem kX6_write {l : Launch} {D : va_G} {dA : Nat → ClassId} {ad : Nat → Nat} {t1 t2 : Nat} {N : Nat} {S T : SS} {o : Nat → Int64} {p1 : Int32} {p2 : Int32} {S' : SS} (hR : fX6_write N S p1 p2 = some S') : KV l D dA ad t1 t2 yX6_write cX6_write 4 { frames := 1, cells := 0, slots := 0, locals := 23 } [.ref (ad 7), .int p1, .int p2] S T o S' T := by
  intro sz
  refine en_ (plainFor_of_name (by decide)) (Nat.le_of_ble_eq_true rfl) ?_
  intro p ev s m args below meth c QQ hQ hsz X hr hlk w ls hl
  have hx := X.1
  have hb := X.2.1
  have hl : lv_has ls 4 [(0, .ref (ad 7)), (1, .int p1), (2, .int p2)] := hl
  unfold fX6_write at hR
  refine lv_aload_n hx hb dX6_write_0 rfl (lv_at hl 0 rfl) ?_
  refine gX6_draft X w lfX6_12 dX6_write_1 ?_
  refine gX5_ends (Or.inr rfl) X w lfX6_35 dX6_write_4 ?_
  refine lv_iconst (v := 1) hx hb dX6_write_7 (by decide) ?_
  refine lv_isub hx hb dX6_write_8 ?_
  obtain ⟨v1, ev1, hR⟩ := lt_e hR
  refine nm_i ev1 ?_
  refine lv_istore_n (lv' := [(3, .int v1), (0, .ref (ad 7)), (1, .int p1), (2, .int p2)]) hx hb dX6_write_9 rfl hl (by decide) rfl (fun ls hl => ?_)
  refine lv_iload_n hx hb dX6_write_10 rfl (lv_at hl 2 rfl) ?_
  refine lv_if_ne (tgt := 25) hx hb dX6_write_11 (by decide) (fun c2 => ?_) (fun c2 => ?_)
  · rw [if_neg c2] at hR
    refine lv_iload_n hx hb dX6_write_25 rfl (lv_at hl 2 rfl) ?_
    refine lv_iconst (v := 1) hx hb dX6_write_26 (by decide) ?_
    refine lv_icmp_ne (tgt := 41) hx hb dX6_write_27 (by decide) (fun c3 => ?_) (fun c3 => ?_)
    · rw [if_neg c3] at hR
      refine lv_iload_n hx hb dX6_write_41 rfl (lv_at hl 2 rfl) ?_
      refine lv_iconst (v := 2) hx hb dX6_write_42 (by decide) ?_
      refine lv_icmp_ne (tgt := 57) hx hb dX6_write_43 (by decide) (fun c4 => ?_) (fun c4 => ?_)
      · rw [if_neg c4] at hR
        refine lv_iload_n hx hb dX6_write_57 rfl (lv_at hl 2 rfl) ?_
        refine lv_iconst (v := 3) hx hb dX6_write_58 (by decide) ?_
        refine lv_icmp_ne (tgt := 73) hx hb dX6_write_59 (by decide) (fun c5 => ?_) (fun c5 => ?_)
        · rw [if_neg c5] at hR
          refine lv_iload_n hx hb dX6_write_73 rfl (lv_at hl 0 rfl) ?_
          refine lv_if_lt (tgt := 84) hx hb dX6_write_74 (by decide) (fun c6 => ?_) (fun c6 => ?_)
          · rw [if_pos c6] at hR
            rw [hQ]
            exact rt_v X hr hlk w hsz (lf1 hR) rfl dX6_write_84
          · rw [if_neg c6] at hR
            refine lv_aload_n hx hb dX6_write_77 rfl (lv_at hl 1 rfl) ?_
            refine lv_iload_n hx hb dX6_write_78 rfl (lv_at hl 2 rfl) ?_
            refine lv_iload_n hx hb dX6_write_79 rfl (lv_at hl 0 rfl) ?_
            refine lv_iload_n hx hb dX6_write_80 rfl (lv_at hl 3 rfl) ?_
            obtain ⟨S8, h7, hR⟩ := bd_e hR
            refine cVv (k := 7) (As := [.int p1, .int v1, .int p2]) (rest := []) X hl.1 w okX6_writeOfEnd obX6 rfl lmX6_82 (kX6_writeOfEnd h7) ⟨Nat.le_of_ble_eq_true rfl, Nat.le_of_ble_eq_true rfl⟩ ⟨rfl, rfl⟩ ⟨Nat.zero_le _, Nat.zero_le _⟩ rfl rfl (Nat.le_of_ble_eq_true rfl) dX6_write_81 (fun H locs w => ?_)
            rw [hQ]
            exact rt_v X hr hlk w hsz (lf1 hR) rfl dX6_write_84
        · rw [if_pos c5] at hR
          refine lv_aload_n hx hb dX6_write_62 rfl (lv_at hl 1 rfl) ?_
          refine gX6_draft X w lfX6_12 dX6_write_63 ?_
          refine lv_iload_n hx hb dX6_write_66 rfl (lv_at hl 3 rfl) ?_
          obtain ⟨S9, eS9, hR⟩ := lt_e hR
          refine pX5_coins (Or.inr rfl) X w lfX6_79 dX6_write_67 (fun H locs w => ?_)
          rw [← eS9] at w
          refine lv_goto (tgt := 84) hx hb dX6_write_70 (by decide) ?_
          rw [hQ]
          exact rt_v X hr hlk w hsz (lf1 hR) rfl dX6_write_84
      · rw [if_pos c4] at hR
        refine lv_aload_n hx hb dX6_write_46 rfl (lv_at hl 1 rfl) ?_
        refine gX6_draft X w lfX6_12 dX6_write_47 ?_
        refine lv_iload_n hx hb dX6_write_50 rfl (lv_at hl 3 rfl) ?_
        obtain ⟨S10, eS10, hR⟩ := lt_e hR
        refine pX5_girls (Or.inr rfl) X w lfX6_76 dX6_write_51 (fun H locs w => ?_)
        rw [← eS10] at w
        refine lv_goto (tgt := 84) hx hb dX6_write_54 (by decide) ?_
        rw [hQ]
        exact rt_v X hr hlk w hsz (lf1 hR) rfl dX6_write_84
    · rw [if_pos c3] at hR
      refine lv_aload_n hx hb dX6_write_30 rfl (lv_at hl 1 rfl) ?_
      refine gX6_draft X w lfX6_12 dX6_write_31 ?_
      refine lv_iload_n hx hb dX6_write_34 rfl (lv_at hl 3 rfl) ?_
      obtain ⟨S11, eS11, hR⟩ := lt_e hR
      refine pX5_fade (Or.inr rfl) X w lfX6_73 dX6_write_35 (fun H locs w => ?_)
      rw [← eS11] at w
      refine lv_goto (tgt := 84) hx hb dX6_write_38 (by decide) ?_
      rw [hQ]
      exact rt_v X hr hlk w hsz (lf1 hR) rfl dX6_write_84
  · rw [if_pos c2] at hR
    refine lv_aload_n hx hb dX6_write_14 rfl (lv_at hl 1 rfl) ?_
    refine gX6_draft X w lfX6_12 dX6_write_15 ?_
    refine lv_iload_n hx hb dX6_write_18 rfl (lv_at hl 3 rfl) ?_
    obtain ⟨S12, eS12, hR⟩ := lt_e hR
    refine pX5_pass (Or.inr rfl) X w lfX6_70 dX6_write_19 (fun H locs w => ?_)
    rw [← eS12] at w
    refine lv_goto (tgt := 84) hx hb dX6_write_22 (by decide) ?_
    rw [hQ]
    exact rt_v X hr hlk w hsz (lf1 hR) rfl dX6_write_84
/- LooseEnds$MillReader.readNumber(I)Z -/
def fX6_readNumber (N : Nat) (S : SS) (p1 : Int32) : Option (SS × Int32) := b2 (fX9_number N S 2) fun S3 r2 =>
  if r2 = (-1) then
  (some (S3, 0))
  else
  (if p1 < 0 then
  (some (S3, 0))
  else
  (if p1 < 7 then
  (ck (inb p1 7) <|
  if r2 < (vLs (p1 : Int32).toNatClampNeg) then
  (lt (pj S3 1 2 ((gi S3 1 2) - 1)) fun S9 =>
  some (S9, 0))
  else
  (ck (inb p1 7) <|
  if r2 ≤ (vMs (p1 : Int32).toNatClampNeg) then
  (bd (fX6_write N S3 p1 r2) fun S13 =>
  some (S13, 1))
  else
  (lt (pj S3 1 2 ((gi S3 1 2) - 1)) fun S14 =>
  some (S14, 0))))
  else
  (some (S3, 0))))
set_option maxHeartbeats 4000000 in
set_option maxRecDepth 100000 in
theorem kX6_readNumber {l : Launch} {D : va_G} {dA : Nat → ClassId} {ad : Nat → Nat} {t1 t2 : Nat} {N : Nat} {S T : SS} {o : Nat → Int64} {p1 : Int32} {r : Int32} {S' : SS} (hR : fX6_readNumber N S p1 = some (S', r)) : KI l D dA ad t1 t2 yX6_readNumber cX6_readNumber 3 .boolean { frames := 2, cells := 0, slots := 0, locals := 46 } [.ref (ad 7), .int p1] S T o r S' T := by
  intro sz
  refine en_ (plainFor_of_name (by decide)) (Nat.le_of_ble_eq_true rfl) ?_
  intro p ev s m args below meth c QQ hQ hsz X hr hlk w ls hl
  have hx := X.1
  have hb := X.2.1
  have hl : lv_has ls 3 [(0, .ref (ad 7)), (1, .int p1)] := hl
  unfold fX6_readNumber at hR
  refine lv_aload_n hx hb dX6_readNumber_0 rfl (lv_at hl 0 rfl) ?_
  refine gX6_tape X w lfX6_18 dX6_readNumber_1 ?_
  refine lv_iconst (v := 2) hx hb dX6_readNumber_4 (by decide) ?_
  obtain ⟨S3, r2, h1, hR⟩ := b2_e hR
  refine cVi (k := 1) (As := [.int 2]) (rest := []) X hl.1 w okX9_number obX9 rfl lmX6_59 (kX9_number h1) ⟨Nat.le_of_ble_eq_true rfl, Nat.le_of_ble_eq_true rfl⟩ ⟨rfl, rfl⟩ ⟨Nat.zero_le _, Nat.zero_le _⟩ rfl rfl (Nat.le_of_ble_eq_true rfl) dX6_readNumber_5 (fun H locs zr2 w => ?_)
  refine lv_istore_n (lv' := [(2, .int r2), (0, .ref (ad 7)), (1, .int p1)]) hx hb dX6_readNumber_8 rfl hl (by decide) rfl (fun ls hl => ?_)
  refine lv_iload_n hx hb dX6_readNumber_9 rfl (lv_at hl 0 rfl) ?_
  refine lv_iconst (v := -1) hx hb dX6_readNumber_10 (by decide) ?_
  refine lv_icmp_eq (tgt := 26) hx hb dX6_readNumber_11 (by decide) (fun c4 => ?_) (fun c4 => ?_)
  · rw [if_pos c4] at hR
    refine lv_iconst (v := 0) hx hb dX6_readNumber_26 (by decide) ?_
    rw [hQ]
    exact rt_i X hr hlk w hsz rfl (lf2 hR).1 rfl (lf2 hR).2 dX6_readNumber_27
  · rw [if_neg c4] at hR
    refine lv_iload_n hx hb dX6_readNumber_14 rfl (lv_at hl 2 rfl) ?_
    refine lv_if_lt (tgt := 26) hx hb dX6_readNumber_15 (by decide) (fun c5 => ?_) (fun c5 => ?_)
    · rw [if_pos c5] at hR
      refine lv_iconst (v := 0) hx hb dX6_readNumber_26 (by decide) ?_
      rw [hQ]
      exact rt_i X hr hlk w hsz rfl (lf2 hR).1 rfl (lf2 hR).2 dX6_readNumber_27
    · rw [if_neg c5] at hR
      refine lv_iload_n hx hb dX6_readNumber_18 rfl (lv_at hl 2 rfl) ?_
      refine gLs X w lfX6_48 dX6_readNumber_19 ?_
      refine ngLs X w dX6_readNumber_22 ?_
      refine lv_icmp_lt (tgt := 28) hx hb dX6_readNumber_23 (by decide) (fun c6 => ?_) (fun c6 => ?_)
      · rw [if_pos c6] at hR
        refine lv_iload_n hx hb dX6_readNumber_28 rfl (lv_at hl 0 rfl) ?_
        refine gLs X w lfX6_48 dX6_readNumber_29 ?_
        refine lv_iload_n hx hb dX6_readNumber_32 rfl (lv_at hl 2 rfl) ?_
        obtain ⟨g7, hR⟩ := ck_e hR
        refine lgLs X w g7 dX6_readNumber_33 ?_
        refine lv_icmp_lt (tgt := 46) hx hb dX6_readNumber_34 (by decide) (fun c8 => ?_) (fun c8 => ?_)
        · rw [if_pos c8] at hR
          refine lv_aload_n hx hb dX6_readNumber_46 rfl (lv_at hl 1 rfl) ?_
          refine gX6_tape X w lfX6_18 dX6_readNumber_47 ?_
          refine lv_dup hx hb dX6_readNumber_50 rfl ?_
          refine gX9_at X w lfX6_25 dX6_readNumber_51 ?_
          refine lv_iconst (v := 1) hx hb dX6_readNumber_54 (by decide) ?_
          refine lv_isub hx hb dX6_readNumber_55 ?_
          obtain ⟨S9, eS9, hR⟩ := lt_e hR
          refine pX9_at X w lfX6_25 dX6_readNumber_56 (fun H locs w => ?_)
          rw [← eS9] at w
          refine lv_iconst (v := 0) hx hb dX6_readNumber_59 (by decide) ?_
          rw [hQ]
          exact rt_i X hr hlk w hsz rfl (lf2 hR).1 rfl (lf2 hR).2 dX6_readNumber_60
        · rw [if_neg c8] at hR
          refine lv_iload_n hx hb dX6_readNumber_37 rfl (lv_at hl 0 rfl) ?_
          refine gMs X w lfX6_63 dX6_readNumber_38 ?_
          refine lv_iload_n hx hb dX6_readNumber_41 rfl (lv_at hl 2 rfl) ?_
          obtain ⟨g10, hR⟩ := ck_e hR
          refine lgMs X w g10 dX6_readNumber_42 ?_
          refine lv_icmp_le (tgt := 61) hx hb dX6_readNumber_43 (by decide) (fun c11 => ?_) (fun c11 => ?_)
          · rw [if_pos c11] at hR
            refine lv_aload_n hx hb dX6_readNumber_61 rfl (lv_at hl 1 rfl) ?_
            refine lv_iload_n hx hb dX6_readNumber_62 rfl (lv_at hl 2 rfl) ?_
            refine lv_iload_n hx hb dX6_readNumber_63 rfl (lv_at hl 0 rfl) ?_
            obtain ⟨S13, h12, hR⟩ := bd_e hR
            refine cVv (k := 7) (As := [.int p1, .int r2]) (rest := []) X hl.1 w okX6_write obX6 rfl lmX6_66 (kX6_write h12) ⟨Nat.le_of_ble_eq_true rfl, Nat.le_of_ble_eq_true rfl⟩ ⟨rfl, rfl⟩ ⟨Nat.zero_le _, Nat.zero_le _⟩ rfl rfl (Nat.le_of_ble_eq_true rfl) dX6_readNumber_64 (fun H locs w => ?_)
            refine lv_iconst (v := 1) hx hb dX6_readNumber_67 (by decide) ?_
            rw [hQ]
            exact rt_i X hr hlk w hsz rfl (lf2 hR).1 rfl (lf2 hR).2 dX6_readNumber_68
          · rw [if_neg c11] at hR
            refine lv_aload_n hx hb dX6_readNumber_46 rfl (lv_at hl 1 rfl) ?_
            refine gX6_tape X w lfX6_18 dX6_readNumber_47 ?_
            refine lv_dup hx hb dX6_readNumber_50 rfl ?_
            refine gX9_at X w lfX6_25 dX6_readNumber_51 ?_
            refine lv_iconst (v := 1) hx hb dX6_readNumber_54 (by decide) ?_
            refine lv_isub hx hb dX6_readNumber_55 ?_
            obtain ⟨S14, eS14, hR⟩ := lt_e hR
            refine pX9_at X w lfX6_25 dX6_readNumber_56 (fun H locs w => ?_)
            rw [← eS14] at w
            refine lv_iconst (v := 0) hx hb dX6_readNumber_59 (by decide) ?_
            rw [hQ]
            exact rt_i X hr hlk w hsz rfl (lf2 hR).1 rfl (lf2 hR).2 dX6_readNumber_60
      · rw [if_neg c6] at hR
        refine lv_iconst (v := 0) hx hb dX6_readNumber_26 (by decide) ?_
        rw [hQ]
        exact rt_i X hr hlk w hsz rfl (lf2 hR).1 rfl (lf2 hR).2 dX6_readNumber_27
/- LooseEnds$MillReader.readItems(I)Z -/
def fX6_readItems_l4 (N : Nat) : Nat → Int32 → Int32 → Int32 → SS → Option (SS × Int32)
  | 0, _, _, _, _ => none
  | n + 1, x1, x2, x3, S => if 7 < x3 then
  (some (S, 1))
  else
  (b2 (fX9_sign N S) fun S4 r3 =>
  bd (fX6_itemOf N x1 r3) fun r6 =>
  if r6 = (-1) then
  (some (S4, 1))
  else
  (if ((sr x2 r6) &&& 1) = 1 then
  (some (S4, 0))
  else
  (lt (x2 ||| (sl 1 r6)) fun v9 =>
  lt (pj S4 1 2 ((gi S4 1 2) + 1)) fun S10 =>
  b2 (fX6_readNumber N S10 r6) fun S13 r12 =>
  if r12 = 0 then
  (some (S13, 0))
  else
  (lt (x3 + 1) fun v15 =>
  fX6_readItems_l4 N n x1 v9 v15 S13))))
def fX6_readItems (N : Nat) (S : SS) (p1 : Int32) : Option (SS × Int32) := fX6_readItems_l4 N N p1 0 0 S
set_option maxHeartbeats 4000000 in
set_option maxRecDepth 100000 in
theorem kX6_readItems {l : Launch} {D : va_G} {dA : Nat → ClassId} {ad : Nat → Nat} {t1 t2 : Nat} {N : Nat} {S T : SS} {o : Nat → Int64} {p1 : Int32} {r : Int32} {S' : SS} (hR : fX6_readItems N S p1 = some (S', r)) : KI l D dA ad t1 t2 yX6_readItems cX6_readItems 5 .boolean { frames := 3, cells := 0, slots := 0, locals := 68 } [.ref (ad 7), .int p1] S T o r S' T := by
  intro sz
  refine en_ (plainFor_of_name (by decide)) (Nat.le_of_ble_eq_true rfl) ?_
  intro p ev s m args below meth c QQ hQ hsz X hr hlk w ls hl
  have hx := X.1
  have hb := X.2.1
  have L4 : ∀ (n : Nat), ∀ (x1 : Int32) (x2 : Int32) (x3 : Int32) (S : SS), fX6_readItems_l4 N n x1 x2 x3 S = some (S', r) → WAT p l ev ({ frames := 3, cells := 0, slots := 0, locals := 68 } : Room) s m args below meth c QQ 5 D dA ad t1 t2 S T o 4 [(0, .ref (ad 7)), (1, .int x1), (2, .int x2), (3, .int x3)] [] := by
    intro n
    induction n with
    | zero =>
      intro x1 x2 x3 S hR
      exact nomatch hR
    | succ n ih =>
      intro x1 x2 x3 S hR H locs ls w hl
      rw [fX6_readItems_l4] at hR
      refine lv_iload_n hx hb dX6_readItems_4 rfl (lv_at hl 3 rfl) ?_
      refine gLs X w lfX6_48 dX6_readItems_5 ?_
      refine ngLs X w dX6_readItems_8 ?_
      refine lv_icmp_gt (tgt := 82) hx hb dX6_readItems_9 (by decide) (fun c1 => ?_) (fun c1 => ?_)
      · rw [if_pos c1] at hR
        refine lv_iconst (v := 1) hx hb dX6_readItems_82 (by decide) ?_
        rw [hQ]
        exact rt_i X hr hlk w hsz rfl (lf2 hR).1 rfl (lf2 hR).2 dX6_readItems_83
      · rw [if_neg c1] at hR
        refine lv_iload_n hx hb dX6_readItems_12 rfl (lv_at hl 1 rfl) ?_
        refine lv_aload_n hx hb dX6_readItems_13 rfl (lv_at hl 0 rfl) ?_
        refine gX6_tape X w lfX6_18 dX6_readItems_14 ?_
        obtain ⟨S4, r3, h2, hR⟩ := b2_e hR
        refine cVi (k := 1) (As := []) (rest := [.int x1]) X hl.1 w okX9_sign obX9 rfl lmX6_31 (kX9_sign h2) ⟨Nat.le_of_ble_eq_true rfl, Nat.le_of_ble_eq_true rfl⟩ ⟨rfl, rfl⟩ ⟨Nat.zero_le _, Nat.zero_le _⟩ rfl rfl (Nat.le_of_ble_eq_true rfl) dX6_readItems_17 (fun H locs zr3 w => ?_)
        obtain ⟨r6, h5, hR⟩ := bd_e hR
        refine cSi (As := [.int x1, .int r3]) (rest := []) X hl.1 w okX6_itemOf lmX6_52 (kX6_itemOf h5) ⟨Nat.le_of_ble_eq_true rfl, Nat.le_of_ble_eq_true rfl⟩ ⟨rfl, rfl⟩ ⟨Nat.zero_le _, Nat.zero_le _⟩ rfl rfl (Nat.le_of_ble_eq_true rfl) dX6_readItems_20 (fun H locs zr6 w => ?_)
        refine lv_istore (lv' := [(4, .int r6), (0, .ref (ad 7)), (1, .int x1), (2, .int x2), (3, .int x3)]) hx hb dX6_readItems_23 hl (by decide) rfl (fun ls hl => ?_)
        refine lv_iload hx hb dX6_readItems_25 (lv_at hl 0 rfl) ?_
        refine lv_iconst (v := -1) hx hb dX6_readItems_27 (by decide) ?_
        refine lv_icmp_ne (tgt := 33) hx hb dX6_readItems_28 (by decide) (fun c7 => ?_) (fun c7 => ?_)
        · rw [if_neg c7] at hR
          refine lv_iload_n hx hb dX6_readItems_33 rfl (lv_at hl 3 rfl) ?_
          refine lv_iload hx hb dX6_readItems_34 (lv_at hl 0 rfl) ?_
          refine lv_ishr hx hb dX6_readItems_36 ?_
          refine lv_iconst (v := 1) hx hb dX6_readItems_37 (by decide) ?_
          refine lv_iand hx hb dX6_readItems_38 ?_
          refine lv_iconst (v := 1) hx hb dX6_readItems_39 (by decide) ?_
          refine lv_icmp_ne (tgt := 45) hx hb dX6_readItems_40 (by decide) (fun c8 => ?_) (fun c8 => ?_)
          · rw [if_neg c8] at hR
            refine lv_iload_n hx hb dX6_readItems_45 rfl (lv_at hl 3 rfl) ?_
            refine lv_iconst (v := 1) hx hb dX6_readItems_46 (by decide) ?_
            refine lv_iload hx hb dX6_readItems_47 (lv_at hl 0 rfl) ?_
            refine lv_ishl hx hb dX6_readItems_49 ?_
            refine lv_ior hx hb dX6_readItems_50 ?_
            obtain ⟨v9, ev9, hR⟩ := lt_e hR
            refine nm_i ev9 ?_
            refine lv_istore_n (lv' := [(2, .int v9), (4, .int r6), (0, .ref (ad 7)), (1, .int x1), (3, .int x3)]) hx hb dX6_readItems_51 rfl hl (by decide) rfl (fun ls hl => ?_)
            refine lv_aload_n hx hb dX6_readItems_52 rfl (lv_at hl 2 rfl) ?_
            refine gX6_tape X w lfX6_18 dX6_readItems_53 ?_
            refine lv_dup hx hb dX6_readItems_56 rfl ?_
            refine gX9_at X w lfX6_25 dX6_readItems_57 ?_
            refine lv_iconst (v := 1) hx hb dX6_readItems_60 (by decide) ?_
            refine lv_iadd hx hb dX6_readItems_61 ?_
            obtain ⟨S10, eS10, hR⟩ := lt_e hR
            refine pX9_at X w lfX6_25 dX6_readItems_62 (fun H locs w => ?_)
            rw [← eS10] at w
            refine lv_aload_n hx hb dX6_readItems_65 rfl (lv_at hl 2 rfl) ?_
            refine lv_iload hx hb dX6_readItems_66 (lv_at hl 1 rfl) ?_
            obtain ⟨S13, r12, h11, hR⟩ := b2_e hR
            refine cVi (k := 7) (As := [.int r6]) (rest := []) X hl.1 w okX6_readNumber obX6 rfl lmX6_56 (kX6_readNumber h11) ⟨Nat.le_of_ble_eq_true rfl, Nat.le_of_ble_eq_true rfl⟩ ⟨rfl, rfl⟩ ⟨Nat.zero_le _, Nat.zero_le _⟩ rfl rfl (Nat.le_of_ble_eq_true rfl) dX6_readItems_68 (fun H locs zr12 w => ?_)
            refine lv_if_ne (tgt := 76) hx hb dX6_readItems_71 (by decide) (fun c14 => ?_) (fun c14 => ?_)
            · rw [if_neg c14] at hR
              obtain ⟨v15, ev15, hR⟩ := lt_e hR
              refine lv_iinc (v := v15) (lv' := [(3, .int v15), (2, .int v9), (4, .int r6), (0, .ref (ad 7)), (1, .int x1)]) hx hb dX6_readItems_76 hl (k := 4) rfl (by rw [ev15]; rfl) (by decide) rfl (fun ls hl => ?_)
              refine lv_goto (tgt := 4) hx hb dX6_readItems_79 (by decide) ?_
              exact ih x1 v9 v15 S13 hR _ _ _ w (lv_sub hl [3, 4, 1, 0] rfl)
            · rw [if_pos c14] at hR
              refine lv_iconst (v := 0) hx hb dX6_readItems_74 (by decide) ?_
              rw [hQ]
              exact rt_i X hr hlk w hsz rfl (lf2 hR).1 rfl (lf2 hR).2 dX6_readItems_75
          · rw [if_pos c8] at hR
            refine lv_iconst (v := 0) hx hb dX6_readItems_43 (by decide) ?_
            rw [hQ]
            exact rt_i X hr hlk w hsz rfl (lf2 hR).1 rfl (lf2 hR).2 dX6_readItems_44
        · rw [if_pos c7] at hR
          refine lv_iconst (v := 1) hx hb dX6_readItems_31 (by decide) ?_
          rw [hQ]
          exact rt_i X hr hlk w hsz rfl (lf2 hR).1 rfl (lf2 hR).2 dX6_readItems_32
  have hl : lv_has ls 5 [(0, .ref (ad 7)), (1, .int p1)] := hl
  unfold fX6_readItems at hR
  refine lv_iconst (v := 0) hx hb dX6_readItems_0 (by decide) ?_
  refine lv_istore_n (lv' := [(2, .int 0), (0, .ref (ad 7)), (1, .int p1)]) hx hb dX6_readItems_1 rfl hl (by decide) rfl (fun ls hl => ?_)
  refine lv_iconst (v := 0) hx hb dX6_readItems_2 (by decide) ?_
  refine lv_istore_n (lv' := [(3, .int 0), (2, .int 0), (0, .ref (ad 7)), (1, .int p1)]) hx hb dX6_readItems_3 rfl hl (by decide) rfl (fun ls hl => ?_)
  exact L4 N p1 0 0 S hR _ _ _ w (lv_sub hl [2, 3, 1, 0] rfl)
/- LooseEnds$MillReader.read()I -/
def fX6_read_j85 (N : Nat) (kc19 : Int32 → Int32 → SS → Option (SS × Int32)) (x1 : Int32) (x2 : Int32) (x3 : Int32) (S : SS) : Option (SS × Int32) := lt (pj S 1 2 ((gi S 1 2) + 1)) fun S1 =>
  b2 (fX6_readItems N S1 x3) fun S4 r3 =>
  if r3 = 0 then
  (some (S4, gi S4 1 2))
  else
  (b2 (fX9_sign N S4) fun S8 r7 =>
  if r7 = (-1) then
  (if 2 ≤ (gi S8 8 0) then
  (some (S8, (-1)))
  else
  (some (S8, gi S8 1 2)))
  else
  (b2 (fX9_take N S8 59) fun S12 r11 =>
  if r11 = 0 then
  (some (S12, gi S12 1 2))
  else
  (lt (x2 + 1) fun v14 =>
  kc19 x1 v14 S12)))
def fX6_read_j49 (N : Nat) (kc19 : Int32 → Int32 → SS → Option (SS × Int32)) (x1 : Int32) (x2 : Int32) (x3 : Int32) (S : SS) : Option (SS × Int32) := if x3 = 116 then
  (if 7 ≤ (gi S 8 0) then
  (some (S, gi S 1 2))
  else
  (bd (fX5_addEnd N S 8) fun S4 =>
  fX6_read_j85 N kc19 x1 x2 x3 S4))
  else
  (some (S, gi S 1 2))
def fX6_read_l19 (N : Nat) : Nat → Int32 → Int32 → SS → Option (SS × Int32)
  | 0, _, _, _ => none
  | n + 1, x1, x2, S => if 240 < x2 then
  (some (S, gi S 1 2))
  else
  (b2 (fX9_sign N S) fun S4 r3 =>
  if r3 = 115 then
  (if x1 = 0 then
  (fX6_read_j85 N (fX6_read_l19 N n) 1 x2 r3 S4)
  else
  (fX6_read_j49 N (fX6_read_l19 N n) x1 x2 r3 S4))
  else
  (fX6_read_j49 N (fX6_read_l19 N n) x1 x2 r3 S4))
def fX6_read (N : Nat) (S : SS) : Option (SS × Int32) := bd (fX5_clear N S 8) fun S2 =>
  lt (pj S2 1 2 0) fun S3 =>
  fX6_read_l19 N N 0 0 S3
set_option maxHeartbeats 4000000 in
set_option maxRecDepth 100000 in
theorem kX6_read {l : Launch} {D : va_G} {dA : Nat → ClassId} {ad : Nat → Nat} {t1 t2 : Nat} {N : Nat} {S T : SS} {o : Nat → Int64} {r : Int32} {S' : SS} (hR : fX6_read N S = some (S', r)) : KI l D dA ad t1 t2 yX6_read cX6_read 4 .int { frames := 4, cells := 0, slots := 0, locals := 92 } [.ref (ad 7)] S T o r S' T := by
  intro sz
  refine en_ (plainFor_of_name (by decide)) (Nat.le_of_ble_eq_true rfl) ?_
  intro p ev s m args below meth c QQ hQ hsz X hr hlk w ls hl
  have hx := X.1
  have hb := X.2.1
  have J85 : ∀ (kc19 : Int32 → Int32 → SS → Option (SS × Int32)) (_ : ∀ (x1 : Int32) (x2 : Int32) (S : SS), kc19 x1 x2 S = some (S', r) → WAT p l ev ({ frames := 4, cells := 0, slots := 0, locals := 92 } : Room) s m args below meth c QQ 4 D dA ad t1 t2 S T o 19 [(0, .ref (ad 7)), (1, .int x1), (2, .int x2)] []), ∀ (x1 : Int32) (x2 : Int32) (x3 : Int32) (S : SS), fX6_read_j85 N kc19 x1 x2 x3 S = some (S', r) → WAT p l ev ({ frames := 4, cells := 0, slots := 0, locals := 92 } : Room) s m args below meth c QQ 4 D dA ad t1 t2 S T o 85 [(0, .ref (ad 7)), (1, .int x1), (2, .int x2), (3, .int x3)] [] := by
    intro kc19 hk19 x1 x2 x3 S hR H locs ls w hl
    unfold fX6_read_j85 at hR
    refine lv_aload_n hx hb dX6_read_85 rfl (lv_at hl 0 rfl) ?_
    refine gX6_tape X w lfX6_18 dX6_read_86 ?_
    refine lv_dup hx hb dX6_read_89 rfl ?_
    refine gX9_at X w lfX6_25 dX6_read_90 ?_
    refine lv_iconst (v := 1) hx hb dX6_read_93 (by decide) ?_
    refine lv_iadd hx hb dX6_read_94 ?_
    obtain ⟨S1, eS1, hR⟩ := lt_e hR
    refine pX9_at X w lfX6_25 dX6_read_95 (fun H locs w => ?_)
    rw [← eS1] at w
    refine lv_aload_n hx hb dX6_read_98 rfl (lv_at hl 0 rfl) ?_
    refine lv_iload_n hx hb dX6_read_99 rfl (lv_at hl 3 rfl) ?_
    obtain ⟨S4, r3, h2, hR⟩ := b2_e hR
    refine cVi (k := 7) (As := [.int x3]) (rest := []) X hl.1 w okX6_readItems obX6 rfl lmX6_41 (kX6_readItems h2) ⟨Nat.le_of_ble_eq_true rfl, Nat.le_of_ble_eq_true rfl⟩ ⟨rfl, rfl⟩ ⟨Nat.zero_le _, Nat.zero_le _⟩ rfl rfl (Nat.le_of_ble_eq_true rfl) dX6_read_100 (fun H locs zr3 w => ?_)
    refine lv_if_ne (tgt := 114) hx hb dX6_read_103 (by decide) (fun c5 => ?_) (fun c5 => ?_)
    · rw [if_neg c5] at hR
      refine lv_aload_n hx hb dX6_read_114 rfl (lv_at hl 0 rfl) ?_
      refine gX6_tape X w lfX6_18 dX6_read_115 ?_
      obtain ⟨S8, r7, h6, hR⟩ := b2_e hR
      refine cVi (k := 1) (As := []) (rest := []) X hl.1 w okX9_sign obX9 rfl lmX6_31 (kX9_sign h6) ⟨Nat.le_of_ble_eq_true rfl, Nat.le_of_ble_eq_true rfl⟩ ⟨rfl, rfl⟩ ⟨Nat.zero_le _, Nat.zero_le _⟩ rfl rfl (Nat.le_of_ble_eq_true rfl) dX6_read_118 (fun H locs zr7 w => ?_)
      refine lv_iconst (v := -1) hx hb dX6_read_121 (by decide) ?_
      refine lv_icmp_ne (tgt := 148) hx hb dX6_read_122 (by decide) (fun c9 => ?_) (fun c9 => ?_)
      · rw [if_neg c9] at hR
        refine lv_aload_n hx hb dX6_read_148 rfl (lv_at hl 0 rfl) ?_
        refine gX6_tape X w lfX6_18 dX6_read_149 ?_
        refine lv_bipush (v := 59) hx hb dX6_read_152 (by decide) ?_
        obtain ⟨S12, r11, h10, hR⟩ := b2_e hR
        refine cVi (k := 1) (As := [.int 59]) (rest := []) X hl.1 w okX9_take obX9 rfl lmX6_45 (kX9_take h10) ⟨Nat.le_of_ble_eq_true rfl, Nat.le_of_ble_eq_true rfl⟩ ⟨rfl, rfl⟩ ⟨Nat.zero_le _, Nat.zero_le _⟩ rfl rfl (Nat.le_of_ble_eq_true rfl) dX6_read_154 (fun H locs zr11 w => ?_)
        refine lv_if_ne (tgt := 168) hx hb dX6_read_157 (by decide) (fun c13 => ?_) (fun c13 => ?_)
        · rw [if_neg c13] at hR
          obtain ⟨v14, ev14, hR⟩ := lt_e hR
          refine lv_iinc (v := v14) (lv' := [(2, .int v14), (0, .ref (ad 7)), (1, .int x1), (3, .int x3)]) hx hb dX6_read_168 hl (k := 2) rfl (by rw [ev14]; rfl) (by decide) rfl (fun ls hl => ?_)
          refine lv_goto (tgt := 19) hx hb dX6_read_171 (by decide) ?_
          exact hk19 x1 v14 S12 hR _ _ _ w (lv_sub hl [1, 2, 0] rfl)
        · rw [if_pos c13] at hR
          refine lv_aload_n hx hb dX6_read_160 rfl (lv_at hl 0 rfl) ?_
          refine gX6_tape X w lfX6_18 dX6_read_161 ?_
          refine gX9_at X w lfX6_25 dX6_read_164 ?_
          rw [hQ]
          exact rt_i X hr hlk w hsz rfl (lf2 hR).1 rfl (lf2 hR).2 dX6_read_167
      · rw [if_pos c9] at hR
        refine lv_aload_n hx hb dX6_read_125 rfl (lv_at hl 0 rfl) ?_
        refine gX6_draft X w lfX6_12 dX6_read_126 ?_
        refine gX5_ends (Or.inr rfl) X w lfX6_35 dX6_read_129 ?_
        refine lv_iconst (v := 2) hx hb dX6_read_132 (by decide) ?_
        refine lv_icmp_ge (tgt := 146) hx hb dX6_read_133 (by decide) (fun c15 => ?_) (fun c15 => ?_)
        · rw [if_pos c15] at hR
          refine lv_iconst (v := -1) hx hb dX6_read_146 (by decide) ?_
          rw [hQ]
          exact rt_i X hr hlk w hsz rfl (lf2 hR).1 rfl (lf2 hR).2 dX6_read_147
        · rw [if_neg c15] at hR
          refine lv_aload_n hx hb dX6_read_136 rfl (lv_at hl 0 rfl) ?_
          refine gX6_tape X w lfX6_18 dX6_read_137 ?_
          refine gX9_at X w lfX6_25 dX6_read_140 ?_
          refine lv_goto (tgt := 147) hx hb dX6_read_143 (by decide) ?_
          rw [hQ]
          exact rt_i X hr hlk w hsz rfl (lf2 hR).1 rfl (lf2 hR).2 dX6_read_147
    · rw [if_pos c5] at hR
      refine lv_aload_n hx hb dX6_read_106 rfl (lv_at hl 0 rfl) ?_
      refine gX6_tape X w lfX6_18 dX6_read_107 ?_
      refine gX9_at X w lfX6_25 dX6_read_110 ?_
      rw [hQ]
      exact rt_i X hr hlk w hsz rfl (lf2 hR).1 rfl (lf2 hR).2 dX6_read_113
  have J49 : ∀ (kc19 : Int32 → Int32 → SS → Option (SS × Int32)) (_ : ∀ (x1 : Int32) (x2 : Int32) (S : SS), kc19 x1 x2 S = some (S', r) → WAT p l ev ({ frames := 4, cells := 0, slots := 0, locals := 92 } : Room) s m args below meth c QQ 4 D dA ad t1 t2 S T o 19 [(0, .ref (ad 7)), (1, .int x1), (2, .int x2)] []), ∀ (x1 : Int32) (x2 : Int32) (x3 : Int32) (S : SS), fX6_read_j49 N kc19 x1 x2 x3 S = some (S', r) → WAT p l ev ({ frames := 4, cells := 0, slots := 0, locals := 92 } : Room) s m args below meth c QQ 4 D dA ad t1 t2 S T o 49 [(0, .ref (ad 7)), (1, .int x1), (2, .int x2), (3, .int x3)] [] := by
    intro kc19 hk19 x1 x2 x3 S hR H locs ls w hl
    unfold fX6_read_j49 at hR
    refine lv_iload_n hx hb dX6_read_49 rfl (lv_at hl 3 rfl) ?_
    refine lv_bipush (v := 116) hx hb dX6_read_50 (by decide) ?_
    refine lv_icmp_ne (tgt := 77) hx hb dX6_read_52 (by decide) (fun c1 => ?_) (fun c1 => ?_)
    · rw [if_neg c1] at hR
      refine lv_aload_n hx hb dX6_read_77 rfl (lv_at hl 0 rfl) ?_
      refine gX6_tape X w lfX6_18 dX6_read_78 ?_
      refine gX9_at X w lfX6_25 dX6_read_81 ?_
      rw [hQ]
      exact rt_i X hr hlk w hsz rfl (lf2 hR).1 rfl (lf2 hR).2 dX6_read_84
    · rw [if_pos c1] at hR
      refine lv_aload_n hx hb dX6_read_55 rfl (lv_at hl 0 rfl) ?_
      refine gX6_draft X w lfX6_12 dX6_read_56 ?_
      refine gX5_ends (Or.inr rfl) X w lfX6_35 dX6_read_59 ?_
      refine lv_bipush (v := 7) hx hb dX6_read_62 (by decide) ?_
      refine lv_icmp_ge (tgt := 77) hx hb dX6_read_64 (by decide) (fun c2 => ?_) (fun c2 => ?_)
      · rw [if_pos c2] at hR
        refine lv_aload_n hx hb dX6_read_77 rfl (lv_at hl 0 rfl) ?_
        refine gX6_tape X w lfX6_18 dX6_read_78 ?_
        refine gX9_at X w lfX6_25 dX6_read_81 ?_
        rw [hQ]
        exact rt_i X hr hlk w hsz rfl (lf2 hR).1 rfl (lf2 hR).2 dX6_read_84
      · rw [if_neg c2] at hR
        refine lv_aload_n hx hb dX6_read_67 rfl (lv_at hl 0 rfl) ?_
        refine gX6_draft X w lfX6_12 dX6_read_68 ?_
        obtain ⟨S4, h3, hR⟩ := bd_e hR
        refine cVv (k := 8) (As := []) (rest := []) X hl.1 w okX5_addEnd (obX5 (Or.inr rfl)) rfl lmX6_38 (kX5_addEnd (Or.inr rfl) h3) ⟨Nat.le_of_ble_eq_true rfl, Nat.le_of_ble_eq_true rfl⟩ ⟨rfl, rfl⟩ ⟨Nat.zero_le _, Nat.zero_le _⟩ rfl rfl (Nat.le_of_ble_eq_true rfl) dX6_read_71 (fun H locs w => ?_)
        refine lv_goto (tgt := 85) hx hb dX6_read_74 (by decide) ?_
        exact J85 _ hk19 x1 x2 x3 S4 hR _ _ _ w (lv_sub hl [0, 1, 2, 3] rfl)
  have L19 : ∀ (n : Nat), ∀ (x1 : Int32) (x2 : Int32) (S : SS), fX6_read_l19 N n x1 x2 S = some (S', r) → WAT p l ev ({ frames := 4, cells := 0, slots := 0, locals := 92 } : Room) s m args below meth c QQ 4 D dA ad t1 t2 S T o 19 [(0, .ref (ad 7)), (1, .int x1), (2, .int x2)] [] := by
    intro n
    induction n with
    | zero =>
      intro x1 x2 S hR
      exact nomatch hR
    | succ n ih =>
      intro x1 x2 S hR H locs ls w hl
      rw [fX6_read_l19] at hR
      refine lv_iload_n hx hb dX6_read_19 rfl (lv_at hl 2 rfl) ?_
      refine lv_sipush (v := 240) hx hb dX6_read_20 (by decide) ?_
      refine lv_icmp_gt (tgt := 174) hx hb dX6_read_23 (by decide) (fun c1 => ?_) (fun c1 => ?_)
      · rw [if_pos c1] at hR
        refine lv_aload_n hx hb dX6_read_174 rfl (lv_at hl 0 rfl) ?_
        refine gX6_tape X w lfX6_18 dX6_read_175 ?_
        refine gX9_at X w lfX6_25 dX6_read_178 ?_
        rw [hQ]
        exact rt_i X hr hlk w hsz rfl (lf2 hR).1 rfl (lf2 hR).2 dX6_read_181
      · rw [if_neg c1] at hR
        refine lv_aload_n hx hb dX6_read_26 rfl (lv_at hl 0 rfl) ?_
        refine gX6_tape X w lfX6_18 dX6_read_27 ?_
        obtain ⟨S4, r3, h2, hR⟩ := b2_e hR
        refine cVi (k := 1) (As := []) (rest := []) X hl.1 w okX9_sign obX9 rfl lmX6_31 (kX9_sign h2) ⟨Nat.le_of_ble_eq_true rfl, Nat.le_of_ble_eq_true rfl⟩ ⟨rfl, rfl⟩ ⟨Nat.zero_le _, Nat.zero_le _⟩ rfl rfl (Nat.le_of_ble_eq_true rfl) dX6_read_30 (fun H locs zr3 w => ?_)
        refine lv_istore_n (lv' := [(3, .int r3), (0, .ref (ad 7)), (1, .int x1), (2, .int x2)]) hx hb dX6_read_33 rfl hl (by decide) rfl (fun ls hl => ?_)
        refine lv_iload_n hx hb dX6_read_34 rfl (lv_at hl 0 rfl) ?_
        refine lv_bipush (v := 115) hx hb dX6_read_35 (by decide) ?_
        refine lv_icmp_ne (tgt := 49) hx hb dX6_read_37 (by decide) (fun c5 => ?_) (fun c5 => ?_)
        · rw [if_neg c5] at hR
          exact J49 _ ih x1 x2 r3 S4 hR _ _ _ w (lv_sub hl [1, 2, 3, 0] rfl)
        · rw [if_pos c5] at hR
          refine lv_iload_n hx hb dX6_read_40 rfl (lv_at hl 2 rfl) ?_
          refine lv_if_ne (tgt := 49) hx hb dX6_read_41 (by decide) (fun c6 => ?_) (fun c6 => ?_)
          · rw [if_neg c6] at hR
            exact J49 _ ih x1 x2 r3 S4 hR _ _ _ w (lv_sub hl [1, 2, 3, 0] rfl)
          · rw [if_pos c6] at hR
            refine lv_iconst (v := 1) hx hb dX6_read_44 (by decide) ?_
            refine lv_istore_n (lv' := [(1, .int 1), (3, .int r3), (0, .ref (ad 7)), (2, .int x2)]) hx hb dX6_read_45 rfl hl (by decide) rfl (fun ls hl => ?_)
            refine lv_goto (tgt := 85) hx hb dX6_read_46 (by decide) ?_
            exact J85 _ ih 1 x2 r3 S4 hR _ _ _ w (lv_sub hl [2, 0, 3, 1] rfl)
  have hl : lv_has ls 4 [(0, .ref (ad 7))] := hl
  unfold fX6_read at hR
  refine lv_iconst (v := 0) hx hb dX6_read_0 (by decide) ?_
  refine lv_istore_n (lv' := [(1, .int 0), (0, .ref (ad 7))]) hx hb dX6_read_1 rfl hl (by decide) rfl (fun ls hl => ?_)
  refine lv_aload_n hx hb dX6_read_2 rfl (lv_at hl 1 rfl) ?_
  refine gX6_draft X w lfX6_12 dX6_read_3 ?_
  obtain ⟨S2, h1, hR⟩ := bd_e hR
  refine cVv (k := 8) (As := []) (rest := []) X hl.1 w okX5_clear (obX5 (Or.inr rfl)) rfl lmX6_22 (kX5_clear (Or.inr rfl) h1) ⟨Nat.le_of_ble_eq_true rfl, Nat.le_of_ble_eq_true rfl⟩ ⟨rfl, rfl⟩ ⟨Nat.zero_le _, Nat.zero_le _⟩ rfl rfl (Nat.le_of_ble_eq_true rfl) dX6_read_6 (fun H locs w => ?_)
  refine lv_aload_n hx hb dX6_read_9 rfl (lv_at hl 1 rfl) ?_
  refine gX6_tape X w lfX6_18 dX6_read_10 ?_
  refine lv_iconst (v := 0) hx hb dX6_read_13 (by decide) ?_
  obtain ⟨S3, eS3, hR⟩ := lt_e hR
  refine pX9_at X w lfX6_25 dX6_read_14 (fun H locs w => ?_)
  rw [← eS3] at w
  refine lv_iconst (v := 0) hx hb dX6_read_17 (by decide) ?_
  refine lv_istore_n (lv' := [(2, .int 0), (1, .int 0), (0, .ref (ad 7))]) hx hb dX6_read_18 rfl hl (by decide) rfl (fun ls hl => ?_)
  exact L19 N 0 0 S3 hR _ _ _ w (lv_sub hl [2, 1, 0] rfl)
/- LooseEnds$Sightings.add(IIZ)I -/
def fX7_add (N : Nat) (S : SS) (p1 : Int32) (p2 : Int32) (p3 : Int32) : Option (SS × Int32) := if (gi S 40 5) < 10 then
  (ck (inb (gi S 40 5) 10) <|
  lt (pa S 41 (gi S 40 5) p1) fun S3 =>
  ck (inb (gi S3 40 5) 10) <|
  lt (pa S3 42 (gi S3 40 5) p2) fun S5 =>
  ck (inb (gi S5 40 5) 10) <|
  lt (pa S5 43 (gi S5 40 5) (nb p3)) fun S7 =>
  lt (pj S7 40 5 ((gi S7 40 5) + 1)) fun S8 =>
  some (S8, gi S8 40 5))
  else
  (some (S, (-1)))
set_option maxHeartbeats 4000000 in
set_option maxRecDepth 100000 in
theorem kX7_add {l : Launch} {D : va_G} {dA : Nat → ClassId} {ad : Nat → Nat} {t1 t2 : Nat} {N : Nat} {S T : SS} {o : Nat → Int64} {p1 : Int32} {p2 : Int32} {p3 : Int32} {r : Int32} {S' : SS} (hR : fX7_add N S p1 p2 p3 = some (S', r)) : KI l D dA ad t1 t2 yX7_add cX7_add 4 .int { frames := 0, cells := 0, slots := 0, locals := 0 } [.ref (ad 40), .int p1, .int p2, .int p3] S T o r S' T := by
  intro sz
  refine en_ (plainFor_of_name (by decide)) (Nat.le_of_ble_eq_true rfl) ?_
  intro p ev s m args below meth c QQ hQ hsz X hr hlk w ls hl
  have hx := X.1
  have hb := X.2.1
  have hl : lv_has ls 4 [(0, .ref (ad 40)), (1, .int p1), (2, .int p2), (3, .int p3)] := hl
  unfold fX7_add at hR
  refine lv_aload_n hx hb dX7_add_0 rfl (lv_at hl 0 rfl) ?_
  refine gX7_size X w lfX7_30 dX7_add_1 ?_
  refine lv_bipush (v := 10) hx hb dX7_add_4 (by decide) ?_
  refine lv_icmp_lt (tgt := 11) hx hb dX7_add_6 (by decide) (fun c1 => ?_) (fun c1 => ?_)
  · rw [if_pos c1] at hR
    refine lv_aload_n hx hb dX7_add_11 rfl (lv_at hl 0 rfl) ?_
    refine gX7_ones X w lfX7_11 dX7_add_12 ?_
    refine lv_aload_n hx hb dX7_add_15 rfl (lv_at hl 0 rfl) ?_
    refine gX7_size X w lfX7_30 dX7_add_16 ?_
    refine lv_iload_n hx hb dX7_add_19 rfl (lv_at hl 1 rfl) ?_
    obtain ⟨g2, hR⟩ := ck_e hR
    obtain ⟨S3, eS3, hR⟩ := lt_e hR
    refine iasS (n := 10) rfl (by decide) X w rfl g2 dX7_add_20 (fun H locs w => ?_)
    rw [← eS3] at w
    refine lv_aload_n hx hb dX7_add_21 rfl (lv_at hl 0 rfl) ?_
    refine gX7_others X w lfX7_15 dX7_add_22 ?_
    refine lv_aload_n hx hb dX7_add_25 rfl (lv_at hl 0 rfl) ?_
    refine gX7_size X w lfX7_30 dX7_add_26 ?_
    refine lv_iload_n hx hb dX7_add_29 rfl (lv_at hl 2 rfl) ?_
    obtain ⟨g4, hR⟩ := ck_e hR
    obtain ⟨S5, eS5, hR⟩ := lt_e hR
    refine iasS (n := 10) rfl (by decide) X w rfl g4 dX7_add_30 (fun H locs w => ?_)
    rw [← eS5] at w
    refine lv_aload_n hx hb dX7_add_31 rfl (lv_at hl 0 rfl) ?_
    refine gX7_went X w lfX7_18 dX7_add_32 ?_
    refine lv_aload_n hx hb dX7_add_35 rfl (lv_at hl 0 rfl) ?_
    refine gX7_size X w lfX7_30 dX7_add_36 ?_
    refine lv_iload_n hx hb dX7_add_39 rfl (lv_at hl 3 rfl) ?_
    obtain ⟨g6, hR⟩ := ck_e hR
    obtain ⟨S7, eS7, hR⟩ := lt_e hR
    refine zasS X w g6 dX7_add_40 (fun H locs w => ?_)
    rw [← eS7] at w
    refine lv_aload_n hx hb dX7_add_41 rfl (lv_at hl 0 rfl) ?_
    refine lv_dup hx hb dX7_add_42 rfl ?_
    refine gX7_size X w lfX7_30 dX7_add_43 ?_
    refine lv_iconst (v := 1) hx hb dX7_add_46 (by decide) ?_
    refine lv_iadd hx hb dX7_add_47 ?_
    obtain ⟨S8, eS8, hR⟩ := lt_e hR
    refine pX7_size X w lfX7_30 dX7_add_48 (fun H locs w => ?_)
    rw [← eS8] at w
    refine lv_aload_n hx hb dX7_add_51 rfl (lv_at hl 0 rfl) ?_
    refine gX7_size X w lfX7_30 dX7_add_52 ?_
    rw [hQ]
    exact rt_i X hr hlk w hsz rfl (lf2 hR).1 rfl (lf2 hR).2 dX7_add_55
  · rw [if_neg c1] at hR
    refine lv_iconst (v := -1) hx hb dX7_add_9 (by decide) ?_
    rw [hQ]
    exact rt_i X hr hlk w hsz rfl (lf2 hR).1 rfl (lf2 hR).2 dX7_add_10
/- LooseEnds$Sightings.goesAs(III)Z -/
def fX7_goesAs (N : Nat) (S : SS) (p1 : Int32) (p2 : Int32) (p3 : Int32) : Option (SS × Int32) := ck (inb p1 7) <|
  ck (inb p3 7) <|
  lt (ab ((ga S 4 p1) - (ga S 4 p3))) fun v3 =>
  ck (inb p3 7) <|
  lt (ab (p2 - (ga S 5 p3))) fun v5 =>
  ck (inb p1 7) <|
  ck (inb p3 7) <|
  b2 (fX2_allows N S v3 v5 ((ga S 6 p1) + (ga S 6 p3)) 1 0) fun S10 r9 =>
  some (S10, r9)
set_option maxHeartbeats 4000000 in
set_option maxRecDepth 100000 in
theorem kX7_goesAs {l : Launch} {D : va_G} {dA : Nat → ClassId} {ad : Nat → Nat} {t1 t2 : Nat} {N : Nat} {S T : SS} {o : Nat → Int64} {p1 : Int32} {p2 : Int32} {p3 : Int32} {r : Int32} {S' : SS} (hR : fX7_goesAs N S p1 p2 p3 = some (S', r)) : KI l D dA ad t1 t2 yX7_goesAs cX7_goesAs 6 .boolean { frames := 3, cells := 0, slots := 0, locals := 75 } [.ref (ad 40), .int p1, .int p2, .int p3] S T o r S' T := by
  intro sz
  refine en_ (plainFor_of_name (by decide)) (Nat.le_of_ble_eq_true rfl) ?_
  intro p ev s m args below meth c QQ hQ hsz X hr hlk w ls hl
  have hx := X.1
  have hb := X.2.1
  have hl : lv_has ls 6 [(0, .ref (ad 40)), (1, .int p1), (2, .int p2), (3, .int p3)] := hl
  unfold fX7_goesAs at hR
  refine lv_aload_n hx hb dX7_goesAs_0 rfl (lv_at hl 0 rfl) ?_
  refine gX7_mill X w lfX7_22 dX7_goesAs_1 ?_
  refine gX5_colours (Or.inl rfl) X w lfX7_34 dX7_goesAs_4 ?_
  refine lv_iload_n hx hb dX7_goesAs_7 rfl (lv_at hl 1 rfl) ?_
  obtain ⟨g1, hR⟩ := ck_e hR
  refine ialS (n := 7) rfl (by decide) X w rfl g1 dX7_goesAs_8 ?_
  refine lv_aload_n hx hb dX7_goesAs_9 rfl (lv_at hl 0 rfl) ?_
  refine gX7_mill X w lfX7_22 dX7_goesAs_10 ?_
  refine gX5_colours (Or.inl rfl) X w lfX7_34 dX7_goesAs_13 ?_
  refine lv_iload_n hx hb dX7_goesAs_16 rfl (lv_at hl 3 rfl) ?_
  obtain ⟨g2, hR⟩ := ck_e hR
  refine ialS (n := 7) rfl (by decide) X w rfl g2 dX7_goesAs_17 ?_
  refine lv_isub hx hb dX7_goesAs_18 ?_
  refine abI X hl.1 lmX7_39 ⟨Nat.le_of_ble_eq_true rfl, Nat.le_of_ble_eq_true rfl⟩ ⟨Nat.zero_le _, Nat.zero_le _⟩ dX7_goesAs_19 ?_
  obtain ⟨v3, ev3, hR⟩ := lt_e hR
  refine nm_i ev3 ?_
  refine lv_istore (lv' := [(4, .int v3), (0, .ref (ad 40)), (1, .int p1), (2, .int p2), (3, .int p3)]) hx hb dX7_goesAs_22 hl (by decide) rfl (fun ls hl => ?_)
  refine lv_iload_n hx hb dX7_goesAs_24 rfl (lv_at hl 3 rfl) ?_
  refine lv_aload_n hx hb dX7_goesAs_25 rfl (lv_at hl 1 rfl) ?_
  refine gX7_mill X w lfX7_22 dX7_goesAs_26 ?_
  refine gX5_plies (Or.inl rfl) X w lfX7_45 dX7_goesAs_29 ?_
  refine lv_iload_n hx hb dX7_goesAs_32 rfl (lv_at hl 4 rfl) ?_
  obtain ⟨g4, hR⟩ := ck_e hR
  refine ialS (n := 7) rfl (by decide) X w rfl g4 dX7_goesAs_33 ?_
  refine lv_isub hx hb dX7_goesAs_34 ?_
  refine abI X hl.1 lmX7_39 ⟨Nat.le_of_ble_eq_true rfl, Nat.le_of_ble_eq_true rfl⟩ ⟨Nat.zero_le _, Nat.zero_le _⟩ dX7_goesAs_35 ?_
  obtain ⟨v5, ev5, hR⟩ := lt_e hR
  refine nm_i ev5 ?_
  refine lv_istore (lv' := [(5, .int v5), (4, .int v3), (0, .ref (ad 40)), (1, .int p1), (2, .int p2), (3, .int p3)]) hx hb dX7_goesAs_38 hl (by decide) rfl (fun ls hl => ?_)
  refine lv_aload_n hx hb dX7_goesAs_40 rfl (lv_at hl 2 rfl) ?_
  refine gX7_judge X w lfX7_26 dX7_goesAs_41 ?_
  refine lv_iload hx hb dX7_goesAs_44 (lv_at hl 1 rfl) ?_
  refine lv_iload hx hb dX7_goesAs_46 (lv_at hl 0 rfl) ?_
  refine lv_aload_n hx hb dX7_goesAs_48 rfl (lv_at hl 2 rfl) ?_
  refine gX7_mill X w lfX7_22 dX7_goesAs_49 ?_
  refine gX5_lengths (Or.inl rfl) X w lfX7_48 dX7_goesAs_52 ?_
  refine lv_iload_n hx hb dX7_goesAs_55 rfl (lv_at hl 3 rfl) ?_
  obtain ⟨g6, hR⟩ := ck_e hR
  refine ialS (n := 7) rfl (by decide) X w rfl g6 dX7_goesAs_56 ?_
  refine lv_aload_n hx hb dX7_goesAs_57 rfl (lv_at hl 2 rfl) ?_
  refine gX7_mill X w lfX7_22 dX7_goesAs_58 ?_
  refine gX5_lengths (Or.inl rfl) X w lfX7_48 dX7_goesAs_61 ?_
  refine lv_iload_n hx hb dX7_goesAs_64 rfl (lv_at hl 5 rfl) ?_
  obtain ⟨g7, hR⟩ := ck_e hR
  refine ialS (n := 7) rfl (by decide) X w rfl g7 dX7_goesAs_65 ?_
  refine lv_iadd hx hb dX7_goesAs_66 ?_
  refine lv_iconst (v := 1) hx hb dX7_goesAs_67 (by decide) ?_
  refine lv_iconst (v := 0) hx hb dX7_goesAs_68 (by decide) ?_
  obtain ⟨S10, r9, h8, hR⟩ := b2_e hR
  refine cVi (k := 14) (As := [.int v3, .int v5, .int ((ga S 6 p1) + (ga S 6 p3)), .int 1, .int 0]) (rest := []) X hl.1 w okX2_allows obX2 rfl lmX7_51 (kX2_allows h8) ⟨Nat.le_of_ble_eq_true rfl, Nat.le_of_ble_eq_true rfl⟩ ⟨rfl, rfl⟩ ⟨Nat.zero_le _, Nat.zero_le _⟩ rfl rfl (Nat.le_of_ble_eq_true rfl) dX7_goesAs_69 (fun H locs zr9 w => ?_)
  rw [hQ]
  exact rt_i X hr hlk w hsz zr9 (lf2 hR).1 rfl (lf2 hR).2 dX7_goesAs_72
/- LooseEnds$Sightings.isAllSo(II)Z -/
def fX7_isAllSo_j55 (N : Nat) (kc2 : Int32 → Int32 → Int32 → SS → Option (SS × Int32)) (x1 : Int32) (x2 : Int32) (x3 : Int32) (y0 : Int32) (S : SS) : Option (SS × Int32) := b2 (fX7_goesAs N S x1 x2 y0) fun S3 r2 =>
  ck (inb x3 10) <|
  if r2 = (ga S3 43 x3) then
  (lt (x3 + 1) fun v6 =>
  kc2 x1 x2 v6 S3)
  else
  (some (S3, 0))
def fX7_isAllSo_j30 (N : Nat) (kc2 : Int32 → Int32 → Int32 → SS → Option (SS × Int32)) (x1 : Int32) (x2 : Int32) (x3 : Int32) (S : SS) : Option (SS × Int32) := ck (inb x3 10) <|
  if (ga S 41 x3) = x1 then
  (ck (inb x3 10) <|
  fX7_isAllSo_j55 N kc2 x1 x2 x3 (ga S 42 x3) S)
  else
  (ck (inb x3 10) <|
  fX7_isAllSo_j55 N kc2 x1 x2 x3 (ga S 41 x3) S)
def fX7_isAllSo_l2 (N : Nat) : Nat → Int32 → Int32 → Int32 → SS → Option (SS × Int32)
  | 0, _, _, _, _ => none
  | n + 1, x1, x2, x3, S => if (gi S 40 5) ≤ x3 then
  (some (S, 1))
  else
  (ck (inb x3 10) <|
  if (ga S 41 x3) = x1 then
  (fX7_isAllSo_j30 N (fX7_isAllSo_l2 N n) x1 x2 x3 S)
  else
  (ck (inb x3 10) <|
  if (ga S 42 x3) = x1 then
  (fX7_isAllSo_j30 N (fX7_isAllSo_l2 N n) x1 x2 x3 S)
  else
  (lt (x3 + 1) fun v6 =>
  fX7_isAllSo_l2 N n x1 x2 v6 S)))
def fX7_isAllSo (N : Nat) (S : SS) (p1 : Int32) (p2 : Int32) : Option (SS × Int32) := fX7_isAllSo_l2 N N p1 p2 0 S
set_option maxHeartbeats 4000000 in
set_option maxRecDepth 100000 in
theorem kX7_isAllSo {l : Launch} {D : va_G} {dA : Nat → ClassId} {ad : Nat → Nat} {t1 t2 : Nat} {N : Nat} {S T : SS} {o : Nat → Int64} {p1 : Int32} {p2 : Int32} {r : Int32} {S' : SS} (hR : fX7_isAllSo N S p1 p2 = some (S', r)) : KI l D dA ad t1 t2 yX7_isAllSo cX7_isAllSo 5 .boolean { frames := 4, cells := 0, slots := 0, locals := 100 } [.ref (ad 40), .int p1, .int p2] S T o r S' T := by
  intro sz
  refine en_ (plainFor_of_name (by decide)) (Nat.le_of_ble_eq_true rfl) ?_
  intro p ev s m args below meth c QQ hQ hsz X hr hlk w ls hl
  have hx := X.1
  have hb := X.2.1
  have J55 : ∀ (kc2 : Int32 → Int32 → Int32 → SS → Option (SS × Int32)) (_ : ∀ (x1 : Int32) (x2 : Int32) (x3 : Int32) (S : SS), kc2 x1 x2 x3 S = some (S', r) → WAT p l ev ({ frames := 4, cells := 0, slots := 0, locals := 100 } : Room) s m args below meth c QQ 5 D dA ad t1 t2 S T o 2 [(0, .ref (ad 40)), (1, .int x1), (2, .int x2), (3, .int x3)] []), ∀ (x1 : Int32) (x2 : Int32) (x3 : Int32) (y0 : Int32) (S : SS), fX7_isAllSo_j55 N kc2 x1 x2 x3 y0 S = some (S', r) → WAT p l ev ({ frames := 4, cells := 0, slots := 0, locals := 100 } : Room) s m args below meth c QQ 5 D dA ad t1 t2 S T o 55 [(0, .ref (ad 40)), (1, .int x1), (2, .int x2), (3, .int x3)] [.int y0] := by
    intro kc2 hk2 x1 x2 x3 y0 S hR H locs ls w hl
    unfold fX7_isAllSo_j55 at hR
    refine lv_istore (lv' := [(4, .int y0), (0, .ref (ad 40)), (1, .int x1), (2, .int x2), (3, .int x3)]) hx hb dX7_isAllSo_55 hl (by decide) rfl (fun ls hl => ?_)
    refine lv_aload_n hx hb dX7_isAllSo_57 rfl (lv_at hl 1 rfl) ?_
    refine lv_iload_n hx hb dX7_isAllSo_58 rfl (lv_at hl 2 rfl) ?_
    refine lv_iload_n hx hb dX7_isAllSo_59 rfl (lv_at hl 3 rfl) ?_
    refine lv_iload hx hb dX7_isAllSo_60 (lv_at hl 0 rfl) ?_
    obtain ⟨S3, r2, h1, hR⟩ := b2_e hR
    refine cVi (k := 40) (As := [.int x1, .int x2, .int y0]) (rest := []) X hl.1 w okX7_goesAs obX7 rfl lmX7_61 (kX7_goesAs h1) ⟨Nat.le_of_ble_eq_true rfl, Nat.le_of_ble_eq_true rfl⟩ ⟨rfl, rfl⟩ ⟨Nat.zero_le _, Nat.zero_le _⟩ rfl rfl (Nat.le_of_ble_eq_true rfl) dX7_isAllSo_62 (fun H locs zr2 w => ?_)
    refine lv_aload_n hx hb dX7_isAllSo_65 rfl (lv_at hl 1 rfl) ?_
    refine gX7_went X w lfX7_18 dX7_isAllSo_66 ?_
    refine lv_iload_n hx hb dX7_isAllSo_69 rfl (lv_at hl 4 rfl) ?_
    obtain ⟨g4, hR⟩ := ck_e hR
    refine zalS X w g4 dX7_isAllSo_70 ?_
    refine lv_icmp_eq (tgt := 76) hx hb dX7_isAllSo_71 (by decide) (fun c5 => ?_) (fun c5 => ?_)
    · rw [if_pos c5] at hR
      obtain ⟨v6, ev6, hR⟩ := lt_e hR
      refine lv_iinc (v := v6) (lv' := [(3, .int v6), (4, .int y0), (0, .ref (ad 40)), (1, .int x1), (2, .int x2)]) hx hb dX7_isAllSo_76 hl (k := 4) rfl (by rw [ev6]; rfl) (by decide) rfl (fun ls hl => ?_)
      refine lv_goto (tgt := 2) hx hb dX7_isAllSo_79 (by decide) ?_
      exact hk2 x1 x2 v6 S3 hR _ _ _ w (lv_sub hl [2, 3, 4, 0] rfl)
    · rw [if_neg c5] at hR
      refine lv_iconst (v := 0) hx hb dX7_isAllSo_74 (by decide) ?_
      rw [hQ]
      exact rt_i X hr hlk w hsz rfl (lf2 hR).1 rfl (lf2 hR).2 dX7_isAllSo_75
  have J30 : ∀ (kc2 : Int32 → Int32 → Int32 → SS → Option (SS × Int32)) (_ : ∀ (x1 : Int32) (x2 : Int32) (x3 : Int32) (S : SS), kc2 x1 x2 x3 S = some (S', r) → WAT p l ev ({ frames := 4, cells := 0, slots := 0, locals := 100 } : Room) s m args below meth c QQ 5 D dA ad t1 t2 S T o 2 [(0, .ref (ad 40)), (1, .int x1), (2, .int x2), (3, .int x3)] []), ∀ (x1 : Int32) (x2 : Int32) (x3 : Int32) (S : SS), fX7_isAllSo_j30 N kc2 x1 x2 x3 S = some (S', r) → WAT p l ev ({ frames := 4, cells := 0, slots := 0, locals := 100 } : Room) s m args below meth c QQ 5 D dA ad t1 t2 S T o 30 [(0, .ref (ad 40)), (1, .int x1), (2, .int x2), (3, .int x3)] [] := by
    intro kc2 hk2 x1 x2 x3 S hR H locs ls w hl
    unfold fX7_isAllSo_j30 at hR
    refine lv_aload_n hx hb dX7_isAllSo_30 rfl (lv_at hl 0 rfl) ?_
    refine gX7_ones X w lfX7_11 dX7_isAllSo_31 ?_
    refine lv_iload_n hx hb dX7_isAllSo_34 rfl (lv_at hl 3 rfl) ?_
    obtain ⟨g1, hR⟩ := ck_e hR
    refine ialS (n := 10) rfl (by decide) X w rfl g1 dX7_isAllSo_35 ?_
    refine lv_iload_n hx hb dX7_isAllSo_36 rfl (lv_at hl 1 rfl) ?_
    refine lv_icmp_ne (tgt := 49) hx hb dX7_isAllSo_37 (by decide) (fun c2 => ?_) (fun c2 => ?_)
    · rw [if_neg c2] at hR
      refine lv_aload_n hx hb dX7_isAllSo_49 rfl (lv_at hl 0 rfl) ?_
      refine gX7_ones X w lfX7_11 dX7_isAllSo_50 ?_
      refine lv_iload_n hx hb dX7_isAllSo_53 rfl (lv_at hl 3 rfl) ?_
      obtain ⟨g3, hR⟩ := ck_e hR
      refine ialS (n := 10) rfl (by decide) X w rfl g3 dX7_isAllSo_54 ?_
      exact J55 _ hk2 x1 x2 x3 (ga S 41 x3) S hR _ _ _ w (lv_sub hl [0, 1, 2, 3] rfl)
    · rw [if_pos c2] at hR
      refine lv_aload_n hx hb dX7_isAllSo_40 rfl (lv_at hl 0 rfl) ?_
      refine gX7_others X w lfX7_15 dX7_isAllSo_41 ?_
      refine lv_iload_n hx hb dX7_isAllSo_44 rfl (lv_at hl 3 rfl) ?_
      obtain ⟨g4, hR⟩ := ck_e hR
      refine ialS (n := 10) rfl (by decide) X w rfl g4 dX7_isAllSo_45 ?_
      refine lv_goto (tgt := 55) hx hb dX7_isAllSo_46 (by decide) ?_
      exact J55 _ hk2 x1 x2 x3 (ga S 42 x3) S hR _ _ _ w (lv_sub hl [0, 1, 2, 3] rfl)
  have L2 : ∀ (n : Nat), ∀ (x1 : Int32) (x2 : Int32) (x3 : Int32) (S : SS), fX7_isAllSo_l2 N n x1 x2 x3 S = some (S', r) → WAT p l ev ({ frames := 4, cells := 0, slots := 0, locals := 100 } : Room) s m args below meth c QQ 5 D dA ad t1 t2 S T o 2 [(0, .ref (ad 40)), (1, .int x1), (2, .int x2), (3, .int x3)] [] := by
    intro n
    induction n with
    | zero =>
      intro x1 x2 x3 S hR
      exact nomatch hR
    | succ n ih =>
      intro x1 x2 x3 S hR H locs ls w hl
      rw [fX7_isAllSo_l2] at hR
      refine lv_iload_n hx hb dX7_isAllSo_2 rfl (lv_at hl 3 rfl) ?_
      refine lv_aload_n hx hb dX7_isAllSo_3 rfl (lv_at hl 0 rfl) ?_
      refine gX7_size X w lfX7_30 dX7_isAllSo_4 ?_
      refine lv_icmp_ge (tgt := 82) hx hb dX7_isAllSo_7 (by decide) (fun c1 => ?_) (fun c1 => ?_)
      · rw [if_pos c1] at hR
        refine lv_iconst (v := 1) hx hb dX7_isAllSo_82 (by decide) ?_
        rw [hQ]
        exact rt_i X hr hlk w hsz rfl (lf2 hR).1 rfl (lf2 hR).2 dX7_isAllSo_83
      · rw [if_neg c1] at hR
        refine lv_aload_n hx hb dX7_isAllSo_10 rfl (lv_at hl 0 rfl) ?_
        refine gX7_ones X w lfX7_11 dX7_isAllSo_11 ?_
        refine lv_iload_n hx hb dX7_isAllSo_14 rfl (lv_at hl 3 rfl) ?_
        obtain ⟨g2, hR⟩ := ck_e hR
        refine ialS (n := 10) rfl (by decide) X w rfl g2 dX7_isAllSo_15 ?_
        refine lv_iload_n hx hb dX7_isAllSo_16 rfl (lv_at hl 1 rfl) ?_
        refine lv_icmp_eq (tgt := 30) hx hb dX7_isAllSo_17 (by decide) (fun c3 => ?_) (fun c3 => ?_)
        · rw [if_pos c3] at hR
          exact J30 _ ih x1 x2 x3 S hR _ _ _ w (lv_sub hl [0, 1, 2, 3] rfl)
        · rw [if_neg c3] at hR
          refine lv_aload_n hx hb dX7_isAllSo_20 rfl (lv_at hl 0 rfl) ?_
          refine gX7_others X w lfX7_15 dX7_isAllSo_21 ?_
          refine lv_iload_n hx hb dX7_isAllSo_24 rfl (lv_at hl 3 rfl) ?_
          obtain ⟨g4, hR⟩ := ck_e hR
          refine ialS (n := 10) rfl (by decide) X w rfl g4 dX7_isAllSo_25 ?_
          refine lv_iload_n hx hb dX7_isAllSo_26 rfl (lv_at hl 1 rfl) ?_
          refine lv_icmp_ne (tgt := 76) hx hb dX7_isAllSo_27 (by decide) (fun c5 => ?_) (fun c5 => ?_)
          · rw [if_neg c5] at hR
            obtain ⟨v6, ev6, hR⟩ := lt_e hR
            refine lv_iinc (v := v6) (lv' := [(3, .int v6), (0, .ref (ad 40)), (1, .int x1), (2, .int x2)]) hx hb dX7_isAllSo_76 hl (k := 3) rfl (by rw [ev6]; rfl) (by decide) rfl (fun ls hl => ?_)
            refine lv_goto (tgt := 2) hx hb dX7_isAllSo_79 (by decide) ?_
            exact ih x1 x2 v6 S hR _ _ _ w (lv_sub hl [1, 2, 3, 0] rfl)
          · rw [if_pos c5] at hR
            exact J30 _ ih x1 x2 x3 S hR _ _ _ w (lv_sub hl [0, 1, 2, 3] rfl)
  have hl : lv_has ls 5 [(0, .ref (ad 40)), (1, .int p1), (2, .int p2)] := hl
  unfold fX7_isAllSo at hR
  refine lv_iconst (v := 0) hx hb dX7_isAllSo_0 (by decide) ?_
  refine lv_istore_n (lv' := [(3, .int 0), (0, .ref (ad 40)), (1, .int p1), (2, .int p2)]) hx hb dX7_isAllSo_1 rfl hl (by decide) rfl (fun ls hl => ?_)
  exact L2 N p1 p2 0 S hR _ _ _ w (lv_sub hl [1, 2, 3, 0] rfl)
/- LooseEnds$Sightings.fittingPlies(I)I -/
def fX7_fittingPlies_l4 (N : Nat) : Nat → Int32 → Int32 → Int32 → SS → Option (SS × Int32)
  | 0, _, _, _, _ => none
  | n + 1, x1, x2, x3, S => if 6 < x3 then
  (some (S, x2))
  else
  (b2 (fX7_isAllSo N S x1 x3) fun S4 r3 =>
  if r3 = 0 then
  (lt (x3 + 1) fun v6 =>
  fX7_fittingPlies_l4 N n x1 x2 v6 S4)
  else
  (lt (x2 ||| (sl 1 x3)) fun v7 =>
  lt (x3 + 1) fun v8 =>
  fX7_fittingPlies_l4 N n x1 v7 v8 S4))
def fX7_fittingPlies (N : Nat) (S : SS) (p1 : Int32) : Option (SS × Int32) := fX7_fittingPlies_l4 N N p1 0 1 S
set_option maxHeartbeats 4000000 in
set_option maxRecDepth 100000 in
theorem kX7_fittingPlies {l : Launch} {D : va_G} {dA : Nat → ClassId} {ad : Nat → Nat} {t1 t2 : Nat} {N : Nat} {S T : SS} {o : Nat → Int64} {p1 : Int32} {r : Int32} {S' : SS} (hR : fX7_fittingPlies N S p1 = some (S', r)) : KI l D dA ad t1 t2 yX7_fittingPlies cX7_fittingPlies 4 .int { frames := 5, cells := 0, slots := 0, locals := 124 } [.ref (ad 40), .int p1] S T o r S' T := by
  intro sz
  refine en_ (plainFor_of_name (by decide)) (Nat.le_of_ble_eq_true rfl) ?_
  intro p ev s m args below meth c QQ hQ hsz X hr hlk w ls hl
  have hx := X.1
  have hb := X.2.1
  have L4 : ∀ (n : Nat), ∀ (x1 : Int32) (x2 : Int32) (x3 : Int32) (S : SS), fX7_fittingPlies_l4 N n x1 x2 x3 S = some (S', r) → WAT p l ev ({ frames := 5, cells := 0, slots := 0, locals := 124 } : Room) s m args below meth c QQ 4 D dA ad t1 t2 S T o 4 [(0, .ref (ad 40)), (1, .int x1), (2, .int x2), (3, .int x3)] [] := by
    intro n
    induction n with
    | zero =>
      intro x1 x2 x3 S hR
      exact nomatch hR
    | succ n ih =>
      intro x1 x2 x3 S hR H locs ls w hl
      rw [fX7_fittingPlies_l4] at hR
      refine lv_iload_n hx hb dX7_fittingPlies_4 rfl (lv_at hl 3 rfl) ?_
      refine lv_bipush (v := 6) hx hb dX7_fittingPlies_5 (by decide) ?_
      refine lv_icmp_gt (tgt := 31) hx hb dX7_fittingPlies_7 (by decide) (fun c1 => ?_) (fun c1 => ?_)
      · rw [if_pos c1] at hR
        refine lv_iload_n hx hb dX7_fittingPlies_31 rfl (lv_at hl 2 rfl) ?_
        rw [hQ]
        exact rt_i X hr hlk w hsz rfl (lf2 hR).1 rfl (lf2 hR).2 dX7_fittingPlies_32
      · rw [if_neg c1] at hR
        refine lv_aload_n hx hb dX7_fittingPlies_10 rfl (lv_at hl 0 rfl) ?_
        refine lv_iload_n hx hb dX7_fittingPlies_11 rfl (lv_at hl 1 rfl) ?_
        refine lv_iload_n hx hb dX7_fittingPlies_12 rfl (lv_at hl 3 rfl) ?_
        obtain ⟨S4, r3, h2, hR⟩ := b2_e hR
        refine cVi (k := 40) (As := [.int x1, .int x3]) (rest := []) X hl.1 w okX7_isAllSo obX7 rfl lmX7_57 (kX7_isAllSo h2) ⟨Nat.le_of_ble_eq_true rfl, Nat.le_of_ble_eq_true rfl⟩ ⟨rfl, rfl⟩ ⟨Nat.zero_le _, Nat.zero_le _⟩ rfl rfl (Nat.le_of_ble_eq_true rfl) dX7_fittingPlies_13 (fun H locs zr3 w => ?_)
        refine lv_if_eq (tgt := 25) hx hb dX7_fittingPlies_16 (by decide) (fun c5 => ?_) (fun c5 => ?_)
        · rw [if_pos c5] at hR
          obtain ⟨v6, ev6, hR⟩ := lt_e hR
          refine lv_iinc (v := v6) (lv' := [(3, .int v6), (0, .ref (ad 40)), (1, .int x1), (2, .int x2)]) hx hb dX7_fittingPlies_25 hl (k := 3) rfl (by rw [ev6]; rfl) (by decide) rfl (fun ls hl => ?_)
          refine lv_goto (tgt := 4) hx hb dX7_fittingPlies_28 (by decide) ?_
          exact ih x1 x2 v6 S4 hR _ _ _ w (lv_sub hl [1, 2, 3, 0] rfl)
        · rw [if_neg c5] at hR
          refine lv_iload_n hx hb dX7_fittingPlies_19 rfl (lv_at hl 2 rfl) ?_
          refine lv_iconst (v := 1) hx hb dX7_fittingPlies_20 (by decide) ?_
          refine lv_iload_n hx hb dX7_fittingPlies_21 rfl (lv_at hl 3 rfl) ?_
          refine lv_ishl hx hb dX7_fittingPlies_22 ?_
          refine lv_ior hx hb dX7_fittingPlies_23 ?_
          obtain ⟨v7, ev7, hR⟩ := lt_e hR
          refine nm_i ev7 ?_
          refine lv_istore_n (lv' := [(2, .int v7), (0, .ref (ad 40)), (1, .int x1), (3, .int x3)]) hx hb dX7_fittingPlies_24 rfl hl (by decide) rfl (fun ls hl => ?_)
          obtain ⟨v8, ev8, hR⟩ := lt_e hR
          refine lv_iinc (v := v8) (lv' := [(3, .int v8), (2, .int v7), (0, .ref (ad 40)), (1, .int x1)]) hx hb dX7_fittingPlies_25 hl (k := 3) rfl (by rw [ev8]; rfl) (by decide) rfl (fun ls hl => ?_)
          refine lv_goto (tgt := 4) hx hb dX7_fittingPlies_28 (by decide) ?_
          exact ih x1 v7 v8 S4 hR _ _ _ w (lv_sub hl [2, 3, 1, 0] rfl)
  have hl : lv_has ls 4 [(0, .ref (ad 40)), (1, .int p1)] := hl
  unfold fX7_fittingPlies at hR
  refine lv_iconst (v := 0) hx hb dX7_fittingPlies_0 (by decide) ?_
  refine lv_istore_n (lv' := [(2, .int 0), (0, .ref (ad 40)), (1, .int p1)]) hx hb dX7_fittingPlies_1 rfl hl (by decide) rfl (fun ls hl => ?_)
  refine lv_iconst (v := 1) hx hb dX7_fittingPlies_2 (by decide) ?_
  refine lv_istore_n (lv' := [(3, .int 1), (2, .int 0), (0, .ref (ad 40)), (1, .int p1)]) hx hb dX7_fittingPlies_3 rfl hl (by decide) rfl (fun ls hl => ?_)
  exact L4 N p1 0 1 S hR _ _ _ w (lv_sub hl [2, 3, 1, 0] rfl)
/- LooseEnds$Sightings.apartBy(III)I -/
def fX7_apartBy_l6 (N : Nat) : Nat → Int32 → Int32 → Int32 → Int32 → Int32 → SS → Option (SS × Int32)
  | 0, _, _, _, _, _, _ => none
  | n + 1, x1, x2, x3, x4, x5, S => if 6 < x5 then
  (some (S, ab x4))
  else
  (if ((sr x2 x5) &&& 1) = 1 then
  (b2 (fX7_goesAs N S x1 x5 x3) fun S6 r5 =>
  if r5 = 0 then
  (lt (x4 + (-1)) fun v8 =>
  lt (x5 + 1) fun v9 =>
  fX7_apartBy_l6 N n x1 x2 x3 v8 v9 S6)
  else
  (lt (x4 + 1) fun v10 =>
  lt (x5 + 1) fun v11 =>
  fX7_apartBy_l6 N n x1 x2 x3 v10 v11 S6))
  else
  (lt (x5 + 1) fun v3 =>
  fX7_apartBy_l6 N n x1 x2 x3 x4 v3 S))
def fX7_apartBy (N : Nat) (S : SS) (p1 : Int32) (p2 : Int32) (p3 : Int32) : Option (SS × Int32) := fX7_apartBy_l6 N N p1 p2 p3 0 1 S
set_option maxHeartbeats 4000000 in
set_option maxRecDepth 100000 in
theorem kX7_apartBy {l : Launch} {D : va_G} {dA : Nat → ClassId} {ad : Nat → Nat} {t1 t2 : Nat} {N : Nat} {S T : SS} {o : Nat → Int64} {p1 : Int32} {p2 : Int32} {p3 : Int32} {r : Int32} {S' : SS} (hR : fX7_apartBy N S p1 p2 p3 = some (S', r)) : KI l D dA ad t1 t2 yX7_apartBy cX7_apartBy 6 .int { frames := 4, cells := 0, slots := 0, locals := 100 } [.ref (ad 40), .int p1, .int p2, .int p3] S T o r S' T := by
  intro sz
  refine en_ (plainFor_of_name (by decide)) (Nat.le_of_ble_eq_true rfl) ?_
  intro p ev s m args below meth c QQ hQ hsz X hr hlk w ls hl
  have hx := X.1
  have hb := X.2.1
  have L6 : ∀ (n : Nat), ∀ (x1 : Int32) (x2 : Int32) (x3 : Int32) (x4 : Int32) (x5 : Int32) (S : SS), fX7_apartBy_l6 N n x1 x2 x3 x4 x5 S = some (S', r) → WAT p l ev ({ frames := 4, cells := 0, slots := 0, locals := 100 } : Room) s m args below meth c QQ 6 D dA ad t1 t2 S T o 6 [(0, .ref (ad 40)), (1, .int x1), (2, .int x2), (3, .int x3), (4, .int x4), (5, .int x5)] [] := by
    intro n
    induction n with
    | zero =>
      intro x1 x2 x3 x4 x5 S hR
      exact nomatch hR
    | succ n ih =>
      intro x1 x2 x3 x4 x5 S hR H locs ls w hl
      rw [fX7_apartBy_l6] at hR
      refine lv_iload hx hb dX7_apartBy_6 (lv_at hl 5 rfl) ?_
      refine lv_bipush (v := 6) hx hb dX7_apartBy_8 (by decide) ?_
      refine lv_icmp_gt (tgt := 50) hx hb dX7_apartBy_10 (by decide) (fun c1 => ?_) (fun c1 => ?_)
      · rw [if_pos c1] at hR
        refine lv_iload hx hb dX7_apartBy_50 (lv_at hl 4 rfl) ?_
        refine abI X hl.1 lmX7_39 ⟨Nat.le_of_ble_eq_true rfl, Nat.le_of_ble_eq_true rfl⟩ ⟨Nat.zero_le _, Nat.zero_le _⟩ dX7_apartBy_52 ?_
        rw [hQ]
        exact rt_i X hr hlk w hsz rfl (lf2 hR).1 rfl (lf2 hR).2 dX7_apartBy_55
      · rw [if_neg c1] at hR
        refine lv_iload_n hx hb dX7_apartBy_13 rfl (lv_at hl 2 rfl) ?_
        refine lv_iload hx hb dX7_apartBy_14 (lv_at hl 5 rfl) ?_
        refine lv_ishr hx hb dX7_apartBy_16 ?_
        refine lv_iconst (v := 1) hx hb dX7_apartBy_17 (by decide) ?_
        refine lv_iand hx hb dX7_apartBy_18 ?_
        refine lv_iconst (v := 1) hx hb dX7_apartBy_19 (by decide) ?_
        refine lv_icmp_ne (tgt := 44) hx hb dX7_apartBy_20 (by decide) (fun c2 => ?_) (fun c2 => ?_)
        · rw [if_neg c2] at hR
          obtain ⟨v3, ev3, hR⟩ := lt_e hR
          refine lv_iinc (v := v3) (lv' := [(5, .int v3), (0, .ref (ad 40)), (1, .int x1), (2, .int x2), (3, .int x3), (4, .int x4)]) hx hb dX7_apartBy_44 hl (k := 5) rfl (by rw [ev3]; rfl) (by decide) rfl (fun ls hl => ?_)
          refine lv_goto (tgt := 6) hx hb dX7_apartBy_47 (by decide) ?_
          exact ih x1 x2 x3 x4 v3 S hR _ _ _ w (lv_sub hl [1, 2, 3, 4, 5, 0] rfl)
        · rw [if_pos c2] at hR
          refine lv_iload hx hb dX7_apartBy_23 (lv_at hl 4 rfl) ?_
          refine lv_aload_n hx hb dX7_apartBy_25 rfl (lv_at hl 0 rfl) ?_
          refine lv_iload_n hx hb dX7_apartBy_26 rfl (lv_at hl 1 rfl) ?_
          refine lv_iload hx hb dX7_apartBy_27 (lv_at hl 5 rfl) ?_
          refine lv_iload_n hx hb dX7_apartBy_29 rfl (lv_at hl 3 rfl) ?_
          obtain ⟨S6, r5, h4, hR⟩ := b2_e hR
          refine cVi (k := 40) (As := [.int x1, .int x5, .int x3]) (rest := [.int x4]) X hl.1 w okX7_goesAs obX7 rfl lmX7_61 (kX7_goesAs h4) ⟨Nat.le_of_ble_eq_true rfl, Nat.le_of_ble_eq_true rfl⟩ ⟨rfl, rfl⟩ ⟨Nat.zero_le _, Nat.zero_le _⟩ rfl rfl (Nat.le_of_ble_eq_true rfl) dX7_apartBy_30 (fun H locs zr5 w => ?_)
          refine lv_if_eq (tgt := 40) hx hb dX7_apartBy_33 (by decide) (fun c7 => ?_) (fun c7 => ?_)
          · rw [if_pos c7] at hR
            refine lv_iconst (v := -1) hx hb dX7_apartBy_40 (by decide) ?_
            refine lv_iadd hx hb dX7_apartBy_41 ?_
            obtain ⟨v8, ev8, hR⟩ := lt_e hR
            refine nm_i ev8 ?_
            refine lv_istore (lv' := [(4, .int v8), (0, .ref (ad 40)), (1, .int x1), (2, .int x2), (3, .int x3), (5, .int x5)]) hx hb dX7_apartBy_42 hl (by decide) rfl (fun ls hl => ?_)
            obtain ⟨v9, ev9, hR⟩ := lt_e hR
            refine lv_iinc (v := v9) (lv' := [(5, .int v9), (4, .int v8), (0, .ref (ad 40)), (1, .int x1), (2, .int x2), (3, .int x3)]) hx hb dX7_apartBy_44 hl (k := 5) rfl (by rw [ev9]; rfl) (by decide) rfl (fun ls hl => ?_)
            refine lv_goto (tgt := 6) hx hb dX7_apartBy_47 (by decide) ?_
            exact ih x1 x2 x3 v8 v9 S6 hR _ _ _ w (lv_sub hl [2, 3, 4, 5, 1, 0] rfl)
          · rw [if_neg c7] at hR
            refine lv_iconst (v := 1) hx hb dX7_apartBy_36 (by decide) ?_
            refine lv_goto (tgt := 41) hx hb dX7_apartBy_37 (by decide) ?_
            refine lv_iadd hx hb dX7_apartBy_41 ?_
            obtain ⟨v10, ev10, hR⟩ := lt_e hR
            refine nm_i ev10 ?_
            refine lv_istore (lv' := [(4, .int v10), (0, .ref (ad 40)), (1, .int x1), (2, .int x2), (3, .int x3), (5, .int x5)]) hx hb dX7_apartBy_42 hl (by decide) rfl (fun ls hl => ?_)
            obtain ⟨v11, ev11, hR⟩ := lt_e hR
            refine lv_iinc (v := v11) (lv' := [(5, .int v11), (4, .int v10), (0, .ref (ad 40)), (1, .int x1), (2, .int x2), (3, .int x3)]) hx hb dX7_apartBy_44 hl (k := 5) rfl (by rw [ev11]; rfl) (by decide) rfl (fun ls hl => ?_)
            refine lv_goto (tgt := 6) hx hb dX7_apartBy_47 (by decide) ?_
            exact ih x1 x2 x3 v10 v11 S6 hR _ _ _ w (lv_sub hl [2, 3, 4, 5, 1, 0] rfl)
  have hl : lv_has ls 6 [(0, .ref (ad 40)), (1, .int p1), (2, .int p2), (3, .int p3)] := hl
  unfold fX7_apartBy at hR
  refine lv_iconst (v := 0) hx hb dX7_apartBy_0 (by decide) ?_
  refine lv_istore (lv' := [(4, .int 0), (0, .ref (ad 40)), (1, .int p1), (2, .int p2), (3, .int p3)]) hx hb dX7_apartBy_1 hl (by decide) rfl (fun ls hl => ?_)
  refine lv_iconst (v := 1) hx hb dX7_apartBy_3 (by decide) ?_
  refine lv_istore (lv' := [(5, .int 1), (4, .int 0), (0, .ref (ad 40)), (1, .int p1), (2, .int p2), (3, .int p3)]) hx hb dX7_apartBy_4 hl (by decide) rfl (fun ls hl => ?_)
  exact L6 N p1 p2 p3 0 1 S hR _ _ _ w (lv_sub hl [2, 3, 4, 5, 1, 0] rfl)
/- LooseEnds$Sightings.bestToTry(II)I -/
def fX7_bestToTry_l8 (N : Nat) : Nat → Int32 → Int32 → Int32 → Int32 → Int32 → SS → Option (SS × Int32)
  | 0, _, _, _, _, _, _ => none
  | n + 1, x1, x2, x3, x4, x5, S => if x2 = 0 then
  (some (S, x3))
  else
  (if (gi S 3 0) ≤ x5 then
  (some (S, x3))
  else
  (if x5 = x1 then
  (lt (x5 + 1) fun v4 =>
  fX7_bestToTry_l8 N n x1 x2 x3 x4 v4 S)
  else
  (b2 (fX7_apartBy N S x1 x2 x5) fun S7 r6 =>
  if x3 = (-1) then
  (lt (x5 + 1) fun v9 =>
  fX7_bestToTry_l8 N n x1 x2 x5 r6 v9 S7)
  else
  (if x4 ≤ r6 then
  (lt (x5 + 1) fun v11 =>
  fX7_bestToTry_l8 N n x1 x2 x3 x4 v11 S7)
  else
  (lt (x5 + 1) fun v12 =>
  fX7_bestToTry_l8 N n x1 x2 x5 r6 v12 S7)))))
def fX7_bestToTry (N : Nat) (S : SS) (p1 : Int32) (p2 : Int32) : Option (SS × Int32) := lt ((-1)) fun v1 =>
  fX7_bestToTry_l8 N N p1 p2 v1 0 0 S
set_option maxHeartbeats 4000000 in
set_option maxRecDepth 100000 in
theorem kX7_bestToTry {l : Launch} {D : va_G} {dA : Nat → ClassId} {ad : Nat → Nat} {t1 t2 : Nat} {N : Nat} {S T : SS} {o : Nat → Int64} {p1 : Int32} {p2 : Int32} {r : Int32} {S' : SS} (hR : fX7_bestToTry N S p1 p2 = some (S', r)) : KI l D dA ad t1 t2 yX7_bestToTry cX7_bestToTry 7 .int { frames := 5, cells := 0, slots := 0, locals := 125 } [.ref (ad 40), .int p1, .int p2] S T o r S' T := by
  intro sz
  refine en_ (plainFor_of_name (by decide)) (Nat.le_of_ble_eq_true rfl) ?_
  intro p ev s m args below meth c QQ hQ hsz X hr hlk w ls hl
  have hx := X.1
  have hb := X.2.1
  have L8 : ∀ (n : Nat), ∀ (x1 : Int32) (x2 : Int32) (x3 : Int32) (x4 : Int32) (x5 : Int32) (S : SS), fX7_bestToTry_l8 N n x1 x2 x3 x4 x5 S = some (S', r) → WAT p l ev ({ frames := 5, cells := 0, slots := 0, locals := 125 } : Room) s m args below meth c QQ 7 D dA ad t1 t2 S T o 8 [(0, .ref (ad 40)), (1, .int x1), (2, .int x2), (3, .int x3), (4, .int x4), (5, .int x5)] [] := by
    intro n
    induction n with
    | zero =>
      intro x1 x2 x3 x4 x5 S hR
      exact nomatch hR
    | succ n ih =>
      intro x1 x2 x3 x4 x5 S hR H locs ls w hl
      rw [fX7_bestToTry_l8] at hR
      refine lv_iload_n hx hb dX7_bestToTry_8 rfl (lv_at hl 2 rfl) ?_
      refine lv_if_eq (tgt := 65) hx hb dX7_bestToTry_9 (by decide) (fun c1 => ?_) (fun c1 => ?_)
      · rw [if_pos c1] at hR
        refine lv_iload_n hx hb dX7_bestToTry_65 rfl (lv_at hl 3 rfl) ?_
        rw [hQ]
        exact rt_i X hr hlk w hsz rfl (lf2 hR).1 rfl (lf2 hR).2 dX7_bestToTry_66
      · rw [if_neg c1] at hR
        refine lv_iload hx hb dX7_bestToTry_12 (lv_at hl 5 rfl) ?_
        refine lv_aload_n hx hb dX7_bestToTry_14 rfl (lv_at hl 0 rfl) ?_
        refine gX7_mill X w lfX7_22 dX7_bestToTry_15 ?_
        refine gX5_ends (Or.inl rfl) X w lfX7_65 dX7_bestToTry_18 ?_
        refine lv_icmp_ge (tgt := 65) hx hb dX7_bestToTry_21 (by decide) (fun c2 => ?_) (fun c2 => ?_)
        · rw [if_pos c2] at hR
          refine lv_iload_n hx hb dX7_bestToTry_65 rfl (lv_at hl 3 rfl) ?_
          rw [hQ]
          exact rt_i X hr hlk w hsz rfl (lf2 hR).1 rfl (lf2 hR).2 dX7_bestToTry_66
        · rw [if_neg c2] at hR
          refine lv_iload hx hb dX7_bestToTry_24 (lv_at hl 5 rfl) ?_
          refine lv_iload_n hx hb dX7_bestToTry_26 rfl (lv_at hl 1 rfl) ?_
          refine lv_icmp_eq (tgt := 59) hx hb dX7_bestToTry_27 (by decide) (fun c3 => ?_) (fun c3 => ?_)
          · rw [if_pos c3] at hR
            obtain ⟨v4, ev4, hR⟩ := lt_e hR
            refine lv_iinc (v := v4) (lv' := [(5, .int v4), (0, .ref (ad 40)), (1, .int x1), (2, .int x2), (3, .int x3), (4, .int x4)]) hx hb dX7_bestToTry_59 hl (k := 5) rfl (by rw [ev4]; rfl) (by decide) rfl (fun ls hl => ?_)
            refine lv_goto (tgt := 8) hx hb dX7_bestToTry_62 (by decide) ?_
            exact ih x1 x2 x3 x4 v4 S hR _ _ _ w (lv_sub hl [1, 2, 3, 4, 5, 0] rfl)
          · rw [if_neg c3] at hR
            refine lv_aload_n hx hb dX7_bestToTry_30 rfl (lv_at hl 0 rfl) ?_
            refine lv_iload_n hx hb dX7_bestToTry_31 rfl (lv_at hl 1 rfl) ?_
            refine lv_iload_n hx hb dX7_bestToTry_32 rfl (lv_at hl 2 rfl) ?_
            refine lv_iload hx hb dX7_bestToTry_33 (lv_at hl 5 rfl) ?_
            obtain ⟨S7, r6, h5, hR⟩ := b2_e hR
            refine cVi (k := 40) (As := [.int x1, .int x2, .int x5]) (rest := []) X hl.1 w okX7_apartBy obX7 rfl lmX7_68 (kX7_apartBy h5) ⟨Nat.le_of_ble_eq_true rfl, Nat.le_of_ble_eq_true rfl⟩ ⟨rfl, rfl⟩ ⟨Nat.zero_le _, Nat.zero_le _⟩ rfl rfl (Nat.le_of_ble_eq_true rfl) dX7_bestToTry_35 (fun H locs zr6 w => ?_)
            refine lv_istore (lv' := [(6, .int r6), (0, .ref (ad 40)), (1, .int x1), (2, .int x2), (3, .int x3), (4, .int x4), (5, .int x5)]) hx hb dX7_bestToTry_38 hl (by decide) rfl (fun ls hl => ?_)
            refine lv_iload_n hx hb dX7_bestToTry_40 rfl (lv_at hl 4 rfl) ?_
            refine lv_iconst (v := -1) hx hb dX7_bestToTry_41 (by decide) ?_
            refine lv_icmp_eq (tgt := 52) hx hb dX7_bestToTry_42 (by decide) (fun c8 => ?_) (fun c8 => ?_)
            · rw [if_pos c8] at hR
              refine lv_iload hx hb dX7_bestToTry_52 (lv_at hl 6 rfl) ?_
              refine lv_istore_n (lv' := [(3, .int x5), (6, .int r6), (0, .ref (ad 40)), (1, .int x1), (2, .int x2), (4, .int x4), (5, .int x5)]) hx hb dX7_bestToTry_54 rfl hl (by decide) rfl (fun ls hl => ?_)
              refine lv_iload hx hb dX7_bestToTry_55 (lv_at hl 1 rfl) ?_
              refine lv_istore (lv' := [(4, .int r6), (3, .int x5), (6, .int r6), (0, .ref (ad 40)), (1, .int x1), (2, .int x2), (5, .int x5)]) hx hb dX7_bestToTry_57 hl (by decide) rfl (fun ls hl => ?_)
              obtain ⟨v9, ev9, hR⟩ := lt_e hR
              refine lv_iinc (v := v9) (lv' := [(5, .int v9), (4, .int r6), (3, .int x5), (6, .int r6), (0, .ref (ad 40)), (1, .int x1), (2, .int x2)]) hx hb dX7_bestToTry_59 hl (k := 6) rfl (by rw [ev9]; rfl) (by decide) rfl (fun ls hl => ?_)
              refine lv_goto (tgt := 8) hx hb dX7_bestToTry_62 (by decide) ?_
              exact ih x1 x2 x5 r6 v9 S7 hR _ _ _ w (lv_sub hl [4, 5, 6, 2, 1, 0] rfl)
            · rw [if_neg c8] at hR
              refine lv_iload hx hb dX7_bestToTry_45 (lv_at hl 0 rfl) ?_
              refine lv_iload hx hb dX7_bestToTry_47 (lv_at hl 5 rfl) ?_
              refine lv_icmp_ge (tgt := 59) hx hb dX7_bestToTry_49 (by decide) (fun c10 => ?_) (fun c10 => ?_)
              · rw [if_pos c10] at hR
                obtain ⟨v11, ev11, hR⟩ := lt_e hR
                refine lv_iinc (v := v11) (lv' := [(5, .int v11), (6, .int r6), (0, .ref (ad 40)), (1, .int x1), (2, .int x2), (3, .int x3), (4, .int x4)]) hx hb dX7_bestToTry_59 hl (k := 6) rfl (by rw [ev11]; rfl) (by decide) rfl (fun ls hl => ?_)
                refine lv_goto (tgt := 8) hx hb dX7_bestToTry_62 (by decide) ?_
                exact ih x1 x2 x3 x4 v11 S7 hR _ _ _ w (lv_sub hl [2, 3, 4, 5, 6, 0] rfl)
              · rw [if_neg c10] at hR
                refine lv_iload hx hb dX7_bestToTry_52 (lv_at hl 6 rfl) ?_
                refine lv_istore_n (lv' := [(3, .int x5), (6, .int r6), (0, .ref (ad 40)), (1, .int x1), (2, .int x2), (4, .int x4), (5, .int x5)]) hx hb dX7_bestToTry_54 rfl hl (by decide) rfl (fun ls hl => ?_)
                refine lv_iload hx hb dX7_bestToTry_55 (lv_at hl 1 rfl) ?_
                refine lv_istore (lv' := [(4, .int r6), (3, .int x5), (6, .int r6), (0, .ref (ad 40)), (1, .int x1), (2, .int x2), (5, .int x5)]) hx hb dX7_bestToTry_57 hl (by decide) rfl (fun ls hl => ?_)
                obtain ⟨v12, ev12, hR⟩ := lt_e hR
                refine lv_iinc (v := v12) (lv' := [(5, .int v12), (4, .int r6), (3, .int x5), (6, .int r6), (0, .ref (ad 40)), (1, .int x1), (2, .int x2)]) hx hb dX7_bestToTry_59 hl (k := 6) rfl (by rw [ev12]; rfl) (by decide) rfl (fun ls hl => ?_)
                refine lv_goto (tgt := 8) hx hb dX7_bestToTry_62 (by decide) ?_
                exact ih x1 x2 x5 r6 v12 S7 hR _ _ _ w (lv_sub hl [4, 5, 6, 2, 1, 0] rfl)
  have hl : lv_has ls 7 [(0, .ref (ad 40)), (1, .int p1), (2, .int p2)] := hl
  unfold fX7_bestToTry at hR
  refine lv_iconst (v := -1) hx hb dX7_bestToTry_0 (by decide) ?_
  obtain ⟨v1, ev1, hR⟩ := lt_e hR
  refine nm_i ev1 ?_
  refine lv_istore_n (lv' := [(3, .int v1), (0, .ref (ad 40)), (1, .int p1), (2, .int p2)]) hx hb dX7_bestToTry_1 rfl hl (by decide) rfl (fun ls hl => ?_)
  refine lv_iconst (v := 0) hx hb dX7_bestToTry_2 (by decide) ?_
  refine lv_istore (lv' := [(4, .int 0), (3, .int v1), (0, .ref (ad 40)), (1, .int p1), (2, .int p2)]) hx hb dX7_bestToTry_3 hl (by decide) rfl (fun ls hl => ?_)
  refine lv_iconst (v := 0) hx hb dX7_bestToTry_5 (by decide) ?_
  refine lv_istore (lv' := [(5, .int 0), (4, .int 0), (3, .int v1), (0, .ref (ad 40)), (1, .int p1), (2, .int p2)]) hx hb dX7_bestToTry_6 hl (by decide) rfl (fun ls hl => ?_)
  exact L8 N p1 p2 v1 0 0 S hR _ _ _ w (lv_sub hl [3, 4, 5, 2, 1, 0] rfl)
/- LooseEnds$State.begin(LLooseEnds$Mill;)V -/
def fX8_begin (N : Nat) (S : SS) (k0 : Nat) (k1 : Nat) : Option (SS) := lt (pj S k0 4 (gi S k1 0)) fun S1 =>
  lt (cp S1 (k1 + 1) 0 (k0 + 1) 0 7) fun S2 =>
  lt (cp S2 (k1 + 3) 0 (k0 + 2) 0 7) fun S3 =>
  bd (fJ7_fill_53178 N S3 (k0 + 3) (-1)) fun S5 =>
  bd (fJ7_fill_53178 N S5 (k0 + 4) (-1)) fun S7 =>
  lt (pj S7 k0 5 0) fun S8 =>
  lt (pj S8 k0 6 0) fun S9 =>
  lt (pj S9 k0 7 0) fun S10 =>
  lt (pj S10 k0 8 (gi S10 k1 4)) fun S11 =>
  lt (pj S11 k0 9 0) fun S12 =>
  some S12
set_option maxHeartbeats 4000000 in
set_option maxRecDepth 100000 in
theorem kX8_begin {l : Launch} {D : va_G} {dA : Nat → ClassId} {ad : Nat → Nat} {t1 t2 : Nat} {N : Nat} {k0 : Nat} (hk0 : k0 = 18 ∨ k0 = 30) {k1 : Nat} (hk1 : k1 = 3 ∨ k1 = 8) {S T : SS} {o : Nat → Int64} {S' : SS} (hR : fX8_begin N S k0 k1 = some S') : KV l D dA ad t1 t2 yX8_begin cX8_begin 2 { frames := 1, cells := 0, slots := 0, locals := 40 } [.ref (ad k0), .ref (ad k1)] S T o S' T := by
  intro sz
  refine en_ (plainFor_of_name (by decide)) (Nat.le_of_ble_eq_true rfl) ?_
  intro p ev s m args below meth c QQ hQ hsz X hr hlk w ls hl
  have hx := X.1
  have hb := X.2.1
  have hl : lv_has ls 2 [(0, .ref (ad k0)), (1, .ref (ad k1))] := hl
  unfold fX8_begin at hR
  refine lv_aload_n hx hb dX8_begin_0 rfl (lv_at hl 0 rfl) ?_
  refine lv_aload_n hx hb dX8_begin_1 rfl (lv_at hl 1 rfl) ?_
  refine gX5_ends hk1 X w lfX8_46 dX8_begin_2 ?_
  obtain ⟨S1, eS1, hR⟩ := lt_e hR
  refine pX8_ends hk0 X w lfX8_51 dX8_begin_5 (fun H locs w => ?_)
  rw [← eS1] at w
  refine lv_aload_n hx hb dX8_begin_8 rfl (lv_at hl 1 rfl) ?_
  refine gX5_colours hk1 X w lfX8_52 dX8_begin_9 ?_
  refine lv_iconst (v := 0) hx hb dX8_begin_12 (by decide) ?_
  refine lv_aload_n hx hb dX8_begin_13 rfl (lv_at hl 0 rfl) ?_
  refine gX8_colours hk0 X w lfX8_9 dX8_begin_14 ?_
  refine lv_iconst (v := 0) hx hb dX8_begin_17 (by decide) ?_
  refine lv_bipush (v := 7) hx hb dX8_begin_18 (by decide) ?_
  obtain ⟨S2, eS2, hR⟩ := lt_e hR
  refine cpS (n0 := 7) (n1 := 7) (ikX5_1 hk1) (lkX5_1 hk1) (ikX8_1 hk0) (lkX8_1 hk0) X hl.1 w lmX8_24 (nkX5_1 hk1) (nkX8_1 hk0) (by decide) (Nat.le_of_ble_eq_true rfl) (Nat.le_of_ble_eq_true rfl) dX8_begin_20 (fun H locs w => ?_)
  rw [← eS2] at w
  refine lv_aload_n hx hb dX8_begin_23 rfl (lv_at hl 1 rfl) ?_
  refine gX5_lengths hk1 X w lfX8_53 dX8_begin_24 ?_
  refine lv_iconst (v := 0) hx hb dX8_begin_27 (by decide) ?_
  refine lv_aload_n hx hb dX8_begin_28 rfl (lv_at hl 0 rfl) ?_
  refine gX8_lengths hk0 X w lfX8_15 dX8_begin_29 ?_
  refine lv_iconst (v := 0) hx hb dX8_begin_32 (by decide) ?_
  refine lv_bipush (v := 7) hx hb dX8_begin_33 (by decide) ?_
  obtain ⟨S3, eS3, hR⟩ := lt_e hR
  refine cpS (n0 := 7) (n1 := 7) (ikX5_3 hk1) (lkX5_3 hk1) (ikX8_2 hk0) (lkX8_2 hk0) X hl.1 w lmX8_24 (nkX5_3 hk1) (nkX8_2 hk0) (by decide) (Nat.le_of_ble_eq_true rfl) (Nat.le_of_ble_eq_true rfl) dX8_begin_35 (fun H locs w => ?_)
  rw [← eS3] at w
  refine lv_aload_n hx hb dX8_begin_38 rfl (lv_at hl 0 rfl) ?_
  refine gX8_behind hk0 X w lfX8_18 dX8_begin_39 ?_
  refine lv_iconst (v := -1) hx hb dX8_begin_42 (by decide) ?_
  obtain ⟨S5, h4, hR⟩ := bd_e hR
  refine cSv (As := [.ref (ad (k0 + 3)), .int (-1)]) (rest := []) X hl.1 w okJ7_fill_53178 lmX8_54 (kJ7_fill_53178 ⟨(ikX8_3 hk0), (lkX8_3 hk0)⟩ h4) ⟨Nat.le_of_ble_eq_true rfl, Nat.le_of_ble_eq_true rfl⟩ ⟨rfl, rfl⟩ ⟨Nat.zero_le _, Nat.zero_le _⟩ rfl rfl (Nat.le_of_ble_eq_true rfl) dX8_begin_43 (fun H locs w => ?_)
  refine lv_aload_n hx hb dX8_begin_46 rfl (lv_at hl 0 rfl) ?_
  refine gX8_ahead hk0 X w lfX8_21 dX8_begin_47 ?_
  refine lv_iconst (v := -1) hx hb dX8_begin_50 (by decide) ?_
  obtain ⟨S7, h6, hR⟩ := bd_e hR
  refine cSv (As := [.ref (ad (k0 + 4)), .int (-1)]) (rest := []) X hl.1 w okJ7_fill_53178 lmX8_54 (kJ7_fill_53178 ⟨(ikX8_4 hk0), (lkX8_4 hk0)⟩ h6) ⟨Nat.le_of_ble_eq_true rfl, Nat.le_of_ble_eq_true rfl⟩ ⟨rfl, rfl⟩ ⟨Nat.zero_le _, Nat.zero_le _⟩ rfl rfl (Nat.le_of_ble_eq_true rfl) dX8_begin_51 (fun H locs w => ?_)
  refine lv_aload_n hx hb dX8_begin_54 rfl (lv_at hl 0 rfl) ?_
  refine lv_iconst (v := 0) hx hb dX8_begin_55 (by decide) ?_
  obtain ⟨S8, eS8, hR⟩ := lt_e hR
  refine pX8_sold hk0 X w lfX8_30 dX8_begin_56 (fun H locs w => ?_)
  rw [← eS8] at w
  refine lv_aload_n hx hb dX8_begin_59 rfl (lv_at hl 0 rfl) ?_
  refine lv_iconst (v := 0) hx hb dX8_begin_60 (by decide) ?_
  obtain ⟨S9, eS9, hR⟩ := lt_e hR
  refine pX8_tries hk0 X w lfX8_34 dX8_begin_61 (fun H locs w => ?_)
  rw [← eS9] at w
  refine lv_aload_n hx hb dX8_begin_64 rfl (lv_at hl 0 rfl) ?_
  refine lv_iconst (v := 0) hx hb dX8_begin_65 (by decide) ?_
  obtain ⟨S10, eS10, hR⟩ := lt_e hR
  refine pX8_made hk0 X w lfX8_37 dX8_begin_66 (fun H locs w => ?_)
  rw [← eS10] at w
  refine lv_aload_n hx hb dX8_begin_69 rfl (lv_at hl 0 rfl) ?_
  refine lv_aload_n hx hb dX8_begin_70 rfl (lv_at hl 1 rfl) ?_
  refine gX5_coins hk1 X w lfX8_60 dX8_begin_71 ?_
  obtain ⟨S11, eS11, hR⟩ := lt_e hR
  refine pX8_coins hk0 X w lfX8_40 dX8_begin_74 (fun H locs w => ?_)
  rw [← eS11] at w
  refine lv_aload_n hx hb dX8_begin_77 rfl (lv_at hl 0 rfl) ?_
  refine lv_iconst (v := 0) hx hb dX8_begin_78 (by decide) ?_
  obtain ⟨S12, eS12, hR⟩ := lt_e hR
  refine pX8_day hk0 X w lfX8_43 dX8_begin_79 (fun H locs w => ?_)
  rw [← eS12] at w
  rw [hQ]
  exact rt_v X hr hlk w hsz (lf1 hR) rfl dX8_begin_82
/- LooseEnds$State.lastOf(I)I -/
def fX8_lastOf_l4 (N : Nat) (k0 : Nat) : Nat → Int32 → Int32 → SS → Option (Int32)
  | 0, _, _, _ => none
  | n + 1, x2, x3, S => if (gi S k0 4) ≤ x3 then
  (some x2)
  else
  (ck (inb x2 7) <|
  if (ga S (k0 + 3) x2) = (-1) then
  (some x2)
  else
  (ck (inb x2 7) <|
  lt (ga S (k0 + 3) x2) fun v5 =>
  lt (x3 + 1) fun v6 =>
  fX8_lastOf_l4 N k0 n v5 v6 S))
def fX8_lastOf (N : Nat) (S : SS) (k0 : Nat) (p1 : Int32) : Option (Int32) := fX8_lastOf_l4 N k0 N p1 0 S
set_option maxHeartbeats 4000000 in
set_option maxRecDepth 100000 in
theorem kX8_lastOf {l : Launch} {D : va_G} {dA : Nat → ClassId} {ad : Nat → Nat} {t1 t2 : Nat} {N : Nat} {k0 : Nat} (hk0 : k0 = 18 ∨ k0 = 30) {S T : SS} {o : Nat → Int64} {p1 : Int32} {r : Int32} (hR : fX8_lastOf N S k0 p1 = some r) : KI l D dA ad t1 t2 yX8_lastOf cX8_lastOf 4 .int { frames := 0, cells := 0, slots := 0, locals := 0 } [.ref (ad k0), .int p1] S T o r S T := by
  intro sz
  refine en_ (plainFor_of_name (by decide)) (Nat.le_of_ble_eq_true rfl) ?_
  intro p ev s m args below meth c QQ hQ hsz X hr hlk w ls hl
  have hx := X.1
  have hb := X.2.1
  have L4 : ∀ (n : Nat), ∀ (x2 : Int32) (x3 : Int32), fX8_lastOf_l4 N k0 n x2 x3 S = some r → WAT p l ev ({ frames := 0, cells := 0, slots := 0, locals := 0 } : Room) s m args below meth c QQ 4 D dA ad t1 t2 S T o 4 [(0, .ref (ad k0)), (2, .int x2), (3, .int x3)] [] := by
    intro n
    induction n with
    | zero =>
      intro x2 x3 hR
      exact nomatch hR
    | succ n ih =>
      intro x2 x3 hR H locs ls w hl
      rw [fX8_lastOf_l4] at hR
      refine lv_iload_n hx hb dX8_lastOf_4 rfl (lv_at hl 2 rfl) ?_
      refine lv_aload_n hx hb dX8_lastOf_5 rfl (lv_at hl 0 rfl) ?_
      refine gX8_ends hk0 X w lfX8_51 dX8_lastOf_6 ?_
      refine lv_icmp_ge (tgt := 35) hx hb dX8_lastOf_9 (by decide) (fun c1 => ?_) (fun c1 => ?_)
      · rw [if_pos c1] at hR
        refine lv_iload_n hx hb dX8_lastOf_35 rfl (lv_at hl 1 rfl) ?_
        rw [hQ]
        exact rt_i X hr hlk w hsz rfl rfl rfl (lf1 hR) dX8_lastOf_36
      · rw [if_neg c1] at hR
        refine lv_aload_n hx hb dX8_lastOf_12 rfl (lv_at hl 0 rfl) ?_
        refine gX8_behind hk0 X w lfX8_18 dX8_lastOf_13 ?_
        refine lv_iload_n hx hb dX8_lastOf_16 rfl (lv_at hl 1 rfl) ?_
        obtain ⟨g2, hR⟩ := ck_e hR
        refine ialS (n := 7) (ikX8_3 hk0) (lkX8_3 hk0) X w (nkX8_3 hk0) g2 dX8_lastOf_17 ?_
        refine lv_iconst (v := -1) hx hb dX8_lastOf_18 (by decide) ?_
        refine lv_icmp_eq (tgt := 35) hx hb dX8_lastOf_19 (by decide) (fun c3 => ?_) (fun c3 => ?_)
        · rw [if_pos c3] at hR
          refine lv_iload_n hx hb dX8_lastOf_35 rfl (lv_at hl 1 rfl) ?_
          rw [hQ]
          exact rt_i X hr hlk w hsz rfl rfl rfl (lf1 hR) dX8_lastOf_36
        · rw [if_neg c3] at hR
          refine lv_aload_n hx hb dX8_lastOf_22 rfl (lv_at hl 0 rfl) ?_
          refine gX8_behind hk0 X w lfX8_18 dX8_lastOf_23 ?_
          refine lv_iload_n hx hb dX8_lastOf_26 rfl (lv_at hl 1 rfl) ?_
          obtain ⟨g4, hR⟩ := ck_e hR
          refine ialS (n := 7) (ikX8_3 hk0) (lkX8_3 hk0) X w (nkX8_3 hk0) g4 dX8_lastOf_27 ?_
          obtain ⟨v5, ev5, hR⟩ := lt_e hR
          refine nm_i ev5 ?_
          refine lv_istore_n (lv' := [(2, .int v5), (0, .ref (ad k0)), (3, .int x3)]) hx hb dX8_lastOf_28 rfl hl (by decide) rfl (fun ls hl => ?_)
          obtain ⟨v6, ev6, hR⟩ := lt_e hR
          refine lv_iinc (v := v6) (lv' := [(3, .int v6), (2, .int v5), (0, .ref (ad k0))]) hx hb dX8_lastOf_29 hl (k := 2) rfl (by rw [ev6]; rfl) (by decide) rfl (fun ls hl => ?_)
          refine lv_goto (tgt := 4) hx hb dX8_lastOf_32 (by decide) ?_
          exact ih v5 v6 hR _ _ _ w (lv_sub hl [2, 1, 0] rfl)
  have hl : lv_has ls 4 [(0, .ref (ad k0)), (1, .int p1)] := hl
  unfold fX8_lastOf at hR
  refine lv_iload_n hx hb dX8_lastOf_0 rfl (lv_at hl 1 rfl) ?_
  refine lv_istore_n (lv' := [(2, .int p1), (0, .ref (ad k0)), (1, .int p1)]) hx hb dX8_lastOf_1 rfl hl (by decide) rfl (fun ls hl => ?_)
  refine lv_iconst (v := 0) hx hb dX8_lastOf_2 (by decide) ?_
  refine lv_istore_n (lv' := [(3, .int 0), (2, .int p1), (0, .ref (ad k0)), (1, .int p1)]) hx hb dX8_lastOf_3 rfl hl (by decide) rfl (fun ls hl => ?_)
  exact L4 N p1 0 hR _ _ _ w (lv_sub hl [2, 1, 0] rfl)
/- LooseEnds$State.neighboursOf(I)I -/
def fX8_neighboursOf_j23 (N : Nat) (k0 : Nat) (x1 : Int32) (x2 : Int32) (S : SS) : Option (Int32) := ck (inb x1 7) <|
  if (ga S (k0 + 4) x1) = (-1) then
  (some x2)
  else
  (ck (inb x1 7) <|
  lt (x2 ||| (sl 1 (ga S (k0 + 4) x1))) fun v4 =>
  some v4)
def fX8_neighboursOf (N : Nat) (S : SS) (k0 : Nat) (p1 : Int32) : Option (Int32) := ck (inb p1 7) <|
  if (ga S (k0 + 3) p1) = (-1) then
  (fX8_neighboursOf_j23 N k0 p1 0 S)
  else
  (ck (inb p1 7) <|
  lt (0 ||| (sl 1 (ga S (k0 + 3) p1))) fun v4 =>
  fX8_neighboursOf_j23 N k0 p1 v4 S)
set_option maxHeartbeats 4000000 in
set_option maxRecDepth 100000 in
theorem kX8_neighboursOf {l : Launch} {D : va_G} {dA : Nat → ClassId} {ad : Nat → Nat} {t1 t2 : Nat} {N : Nat} {k0 : Nat} (hk0 : k0 = 18 ∨ k0 = 30) {S T : SS} {o : Nat → Int64} {p1 : Int32} {r : Int32} (hR : fX8_neighboursOf N S k0 p1 = some r) : KI l D dA ad t1 t2 yX8_neighboursOf cX8_neighboursOf 3 .int { frames := 0, cells := 0, slots := 0, locals := 0 } [.ref (ad k0), .int p1] S T o r S T := by
  intro sz
  refine en_ (plainFor_of_name (by decide)) (Nat.le_of_ble_eq_true rfl) ?_
  intro p ev s m args below meth c QQ hQ hsz X hr hlk w ls hl
  have hx := X.1
  have hb := X.2.1
  have J23 : ∀ (x1 : Int32) (x2 : Int32), fX8_neighboursOf_j23 N k0 x1 x2 S = some r → WAT p l ev ({ frames := 0, cells := 0, slots := 0, locals := 0 } : Room) s m args below meth c QQ 3 D dA ad t1 t2 S T o 23 [(0, .ref (ad k0)), (1, .int x1), (2, .int x2)] [] := by
    intro x1 x2 hR H locs ls w hl
    unfold fX8_neighboursOf_j23 at hR
    refine lv_aload_n hx hb dX8_neighboursOf_23 rfl (lv_at hl 0 rfl) ?_
    refine gX8_ahead hk0 X w lfX8_21 dX8_neighboursOf_24 ?_
    refine lv_iload_n hx hb dX8_neighboursOf_27 rfl (lv_at hl 1 rfl) ?_
    obtain ⟨g1, hR⟩ := ck_e hR
    refine ialS (n := 7) (ikX8_4 hk0) (lkX8_4 hk0) X w (nkX8_4 hk0) g1 dX8_neighboursOf_28 ?_
    refine lv_iconst (v := -1) hx hb dX8_neighboursOf_29 (by decide) ?_
    refine lv_icmp_eq (tgt := 44) hx hb dX8_neighboursOf_30 (by decide) (fun c2 => ?_) (fun c2 => ?_)
    · rw [if_pos c2] at hR
      refine lv_iload_n hx hb dX8_neighboursOf_44 rfl (lv_at hl 2 rfl) ?_
      rw [hQ]
      exact rt_i X hr hlk w hsz rfl rfl rfl (lf1 hR) dX8_neighboursOf_45
    · rw [if_neg c2] at hR
      refine lv_iload_n hx hb dX8_neighboursOf_33 rfl (lv_at hl 2 rfl) ?_
      refine lv_iconst (v := 1) hx hb dX8_neighboursOf_34 (by decide) ?_
      refine lv_aload_n hx hb dX8_neighboursOf_35 rfl (lv_at hl 0 rfl) ?_
      refine gX8_ahead hk0 X w lfX8_21 dX8_neighboursOf_36 ?_
      refine lv_iload_n hx hb dX8_neighboursOf_39 rfl (lv_at hl 1 rfl) ?_
      obtain ⟨g3, hR⟩ := ck_e hR
      refine ialS (n := 7) (ikX8_4 hk0) (lkX8_4 hk0) X w (nkX8_4 hk0) g3 dX8_neighboursOf_40 ?_
      refine lv_ishl hx hb dX8_neighboursOf_41 ?_
      refine lv_ior hx hb dX8_neighboursOf_42 ?_
      obtain ⟨v4, ev4, hR⟩ := lt_e hR
      refine nm_i ev4 ?_
      refine lv_istore_n (lv' := [(2, .int v4), (0, .ref (ad k0)), (1, .int x1)]) hx hb dX8_neighboursOf_43 rfl hl (by decide) rfl (fun ls hl => ?_)
      refine lv_iload_n hx hb dX8_neighboursOf_44 rfl (lv_at hl 0 rfl) ?_
      rw [hQ]
      exact rt_i X hr hlk w hsz rfl rfl rfl (lf1 hR) dX8_neighboursOf_45
  have hl : lv_has ls 3 [(0, .ref (ad k0)), (1, .int p1)] := hl
  unfold fX8_neighboursOf at hR
  refine lv_iconst (v := 0) hx hb dX8_neighboursOf_0 (by decide) ?_
  refine lv_istore_n (lv' := [(2, .int 0), (0, .ref (ad k0)), (1, .int p1)]) hx hb dX8_neighboursOf_1 rfl hl (by decide) rfl (fun ls hl => ?_)
  refine lv_aload_n hx hb dX8_neighboursOf_2 rfl (lv_at hl 1 rfl) ?_
  refine gX8_behind hk0 X w lfX8_18 dX8_neighboursOf_3 ?_
  refine lv_iload_n hx hb dX8_neighboursOf_6 rfl (lv_at hl 2 rfl) ?_
  obtain ⟨g1, hR⟩ := ck_e hR
  refine ialS (n := 7) (ikX8_3 hk0) (lkX8_3 hk0) X w (nkX8_3 hk0) g1 dX8_neighboursOf_7 ?_
  refine lv_iconst (v := -1) hx hb dX8_neighboursOf_8 (by decide) ?_
  refine lv_icmp_eq (tgt := 23) hx hb dX8_neighboursOf_9 (by decide) (fun c2 => ?_) (fun c2 => ?_)
  · rw [if_pos c2] at hR
    exact J23 p1 0 hR _ _ _ w (lv_sub hl [1, 2, 0] rfl)
  · rw [if_neg c2] at hR
    refine lv_iload_n hx hb dX8_neighboursOf_12 rfl (lv_at hl 0 rfl) ?_
    refine lv_iconst (v := 1) hx hb dX8_neighboursOf_13 (by decide) ?_
    refine lv_aload_n hx hb dX8_neighboursOf_14 rfl (lv_at hl 1 rfl) ?_
    refine gX8_behind hk0 X w lfX8_18 dX8_neighboursOf_15 ?_
    refine lv_iload_n hx hb dX8_neighboursOf_18 rfl (lv_at hl 2 rfl) ?_
    obtain ⟨g3, hR⟩ := ck_e hR
    refine ialS (n := 7) (ikX8_3 hk0) (lkX8_3 hk0) X w (nkX8_3 hk0) g3 dX8_neighboursOf_19 ?_
    refine lv_ishl hx hb dX8_neighboursOf_20 ?_
    refine lv_ior hx hb dX8_neighboursOf_21 ?_
    obtain ⟨v4, ev4, hR⟩ := lt_e hR
    refine nm_i ev4 ?_
    refine lv_istore_n (lv' := [(2, .int v4), (0, .ref (ad k0)), (1, .int p1)]) hx hb dX8_neighboursOf_22 rfl hl (by decide) rfl (fun ls hl => ?_)
    exact J23 p1 v4 hR _ _ _ w (lv_sub hl [1, 2, 0] rfl)
/- LooseEnds$State.shorten(I)V -/
def fX8_shorten (N : Nat) (S : SS) (k0 : Nat) (p1 : Int32) : Option (SS) := ck (inb p1 7) <|
  ck (inb p1 7) <|
  lt (pa S (k0 + 2) p1 (mx 1 ((ga S (k0 + 2) p1) - 1))) fun S3 =>
  some S3
set_option maxHeartbeats 4000000 in
set_option maxRecDepth 100000 in
theorem kX8_shorten {l : Launch} {D : va_G} {dA : Nat → ClassId} {ad : Nat → Nat} {t1 t2 : Nat} {N : Nat} {k0 : Nat} (hk0 : k0 = 18 ∨ k0 = 30) {S T : SS} {o : Nat → Int64} {p1 : Int32} {S' : SS} (hR : fX8_shorten N S k0 p1 = some S') : KV l D dA ad t1 t2 yX8_shorten cX8_shorten 2 { frames := 1, cells := 0, slots := 0, locals := 15 } [.ref (ad k0), .int p1] S T o S' T := by
  intro sz
  refine en_ (plainFor_of_name (by decide)) (Nat.le_of_ble_eq_true rfl) ?_
  intro p ev s m args below meth c QQ hQ hsz X hr hlk w ls hl
  have hx := X.1
  have hb := X.2.1
  have hl : lv_has ls 2 [(0, .ref (ad k0)), (1, .int p1)] := hl
  unfold fX8_shorten at hR
  refine lv_aload_n hx hb dX8_shorten_0 rfl (lv_at hl 0 rfl) ?_
  refine gX8_lengths hk0 X w lfX8_15 dX8_shorten_1 ?_
  refine lv_iload_n hx hb dX8_shorten_4 rfl (lv_at hl 1 rfl) ?_
  refine lv_iconst (v := 1) hx hb dX8_shorten_5 (by decide) ?_
  refine lv_aload_n hx hb dX8_shorten_6 rfl (lv_at hl 0 rfl) ?_
  refine gX8_lengths hk0 X w lfX8_15 dX8_shorten_7 ?_
  refine lv_iload_n hx hb dX8_shorten_10 rfl (lv_at hl 1 rfl) ?_
  obtain ⟨g1, hR⟩ := ck_e hR
  refine ialS (n := 7) (ikX8_2 hk0) (lkX8_2 hk0) X w (nkX8_2 hk0) g1 dX8_shorten_11 ?_
  refine lv_iconst (v := 1) hx hb dX8_shorten_12 (by decide) ?_
  refine lv_isub hx hb dX8_shorten_13 ?_
  refine mxI X hl.1 lmX8_86 ⟨Nat.le_of_ble_eq_true rfl, Nat.le_of_ble_eq_true rfl⟩ ⟨Nat.zero_le _, Nat.zero_le _⟩ dX8_shorten_14 ?_
  obtain ⟨g2, hR⟩ := ck_e hR
  obtain ⟨S3, eS3, hR⟩ := lt_e hR
  refine iasS (n := 7) (ikX8_2 hk0) (lkX8_2 hk0) X w (nkX8_2 hk0) g2 dX8_shorten_17 (fun H locs w => ?_)
  rw [← eS3] at w
  rw [hQ]
  exact rt_v X hr hlk w hsz (lf1 hR) rfl dX8_shorten_18
/- LooseEnds$State.takeOff(I)I -/
def fX8_takeOff_j36 (N : Nat) (k0 : Nat) (x1 : Int32) (x2 : Int32) (S : SS) : Option (SS × Int32) := ck (inb x1 7) <|
  if (ga S (k0 + 4) x1) = (-1) then
  (some (S, x2))
  else
  (ck (inb x1 7) <|
  bd (fX8_shorten N S k0 (ga S (k0 + 4) x1)) fun S5 =>
  ck (inb x1 7) <|
  bd (fX8_part N S5 k0 (ga S5 (k0 + 4) x1) x1) fun S8 =>
  lt (x2 + 1) fun v9 =>
  some (S8, v9))
def fX8_takeOff (N : Nat) (S : SS) (k0 : Nat) (p1 : Int32) : Option (SS × Int32) := ck (inb p1 7) <|
  if (ga S (k0 + 3) p1) = (-1) then
  (fX8_takeOff_j36 N k0 p1 0 S)
  else
  (ck (inb p1 7) <|
  bd (fX8_shorten N S k0 (ga S (k0 + 3) p1)) fun S5 =>
  ck (inb p1 7) <|
  bd (fX8_part N S5 k0 p1 (ga S5 (k0 + 3) p1)) fun S8 =>
  lt (0 + 1) fun v9 =>
  fX8_takeOff_j36 N k0 p1 v9 S8)
set_option maxHeartbeats 4000000 in
set_option maxRecDepth 100000 in
theorem kX8_takeOff {l : Launch} {D : va_G} {dA : Nat → ClassId} {ad : Nat → Nat} {t1 t2 : Nat} {N : Nat} {k0 : Nat} (hk0 : k0 = 18 ∨ k0 = 30) {S T : SS} {o : Nat → Int64} {p1 : Int32} {r : Int32} {S' : SS} (hR : fX8_takeOff N S k0 p1 = some (S', r)) : KI l D dA ad t1 t2 yX8_takeOff cX8_takeOff 3 .int { frames := 2, cells := 0, slots := 0, locals := 36 } [.ref (ad k0), .int p1] S T o r S' T := by
  intro sz
  refine en_ (plainFor_of_name (by decide)) (Nat.le_of_ble_eq_true rfl) ?_
  intro p ev s m args below meth c QQ hQ hsz X hr hlk w ls hl
  have hx := X.1
  have hb := X.2.1
  have J36 : ∀ (x1 : Int32) (x2 : Int32) (S : SS), fX8_takeOff_j36 N k0 x1 x2 S = some (S', r) → WAT p l ev ({ frames := 2, cells := 0, slots := 0, locals := 36 } : Room) s m args below meth c QQ 3 D dA ad t1 t2 S T o 36 [(0, .ref (ad k0)), (1, .int x1), (2, .int x2)] [] := by
    intro x1 x2 S hR H locs ls w hl
    unfold fX8_takeOff_j36 at hR
    refine lv_aload_n hx hb dX8_takeOff_36 rfl (lv_at hl 0 rfl) ?_
    refine gX8_ahead hk0 X w lfX8_21 dX8_takeOff_37 ?_
    refine lv_iload_n hx hb dX8_takeOff_40 rfl (lv_at hl 1 rfl) ?_
    obtain ⟨g1, hR⟩ := ck_e hR
    refine ialS (n := 7) (ikX8_4 hk0) (lkX8_4 hk0) X w (nkX8_4 hk0) g1 dX8_takeOff_41 ?_
    refine lv_iconst (v := -1) hx hb dX8_takeOff_42 (by decide) ?_
    refine lv_icmp_eq (tgt := 70) hx hb dX8_takeOff_43 (by decide) (fun c2 => ?_) (fun c2 => ?_)
    · rw [if_pos c2] at hR
      refine lv_iload_n hx hb dX8_takeOff_70 rfl (lv_at hl 2 rfl) ?_
      rw [hQ]
      exact rt_i X hr hlk w hsz rfl (lf2 hR).1 rfl (lf2 hR).2 dX8_takeOff_71
    · rw [if_neg c2] at hR
      refine lv_aload_n hx hb dX8_takeOff_46 rfl (lv_at hl 0 rfl) ?_
      refine lv_aload_n hx hb dX8_takeOff_47 rfl (lv_at hl 0 rfl) ?_
      refine gX8_ahead hk0 X w lfX8_21 dX8_takeOff_48 ?_
      refine lv_iload_n hx hb dX8_takeOff_51 rfl (lv_at hl 1 rfl) ?_
      obtain ⟨g3, hR⟩ := ck_e hR
      refine ialS (n := 7) (ikX8_4 hk0) (lkX8_4 hk0) X w (nkX8_4 hk0) g3 dX8_takeOff_52 ?_
      obtain ⟨S5, h4, hR⟩ := bd_e hR
      refine cVv (k := k0) (As := [.int (ga S (k0 + 4) x1)]) (rest := []) X hl.1 w okX8_shorten (obX8 hk0) rfl lmX8_92 (kX8_shorten hk0 h4) ⟨Nat.le_of_ble_eq_true rfl, Nat.le_of_ble_eq_true rfl⟩ ⟨rfl, rfl⟩ ⟨Nat.zero_le _, Nat.zero_le _⟩ rfl rfl (Nat.le_of_ble_eq_true rfl) dX8_takeOff_53 (fun H locs w => ?_)
      refine lv_aload_n hx hb dX8_takeOff_56 rfl (lv_at hl 0 rfl) ?_
      refine lv_aload_n hx hb dX8_takeOff_57 rfl (lv_at hl 0 rfl) ?_
      refine gX8_ahead hk0 X w lfX8_21 dX8_takeOff_58 ?_
      refine lv_iload_n hx hb dX8_takeOff_61 rfl (lv_at hl 1 rfl) ?_
      obtain ⟨g6, hR⟩ := ck_e hR
      refine ialS (n := 7) (ikX8_4 hk0) (lkX8_4 hk0) X w (nkX8_4 hk0) g6 dX8_takeOff_62 ?_
      refine lv_iload_n hx hb dX8_takeOff_63 rfl (lv_at hl 1 rfl) ?_
      obtain ⟨S8, h7, hR⟩ := bd_e hR
      refine cVv (k := k0) (As := [.int (ga S5 (k0 + 4) x1), .int x1]) (rest := []) X hl.1 w okX8_part (obX8 hk0) rfl lmX8_96 (kX8_part hk0 h7) ⟨Nat.le_of_ble_eq_true rfl, Nat.le_of_ble_eq_true rfl⟩ ⟨rfl, rfl⟩ ⟨Nat.zero_le _, Nat.zero_le _⟩ rfl rfl (Nat.le_of_ble_eq_true rfl) dX8_takeOff_64 (fun H locs w => ?_)
      obtain ⟨v9, ev9, hR⟩ := lt_e hR
      refine lv_iinc (v := v9) (lv' := [(2, .int v9), (0, .ref (ad k0)), (1, .int x1)]) hx hb dX8_takeOff_67 hl (k := 2) rfl (by rw [ev9]; rfl) (by decide) rfl (fun ls hl => ?_)
      refine lv_iload_n hx hb dX8_takeOff_70 rfl (lv_at hl 0 rfl) ?_
      rw [hQ]
      exact rt_i X hr hlk w hsz rfl (lf2 hR).1 rfl (lf2 hR).2 dX8_takeOff_71
  have hl : lv_has ls 3 [(0, .ref (ad k0)), (1, .int p1)] := hl
  unfold fX8_takeOff at hR
  refine lv_iconst (v := 0) hx hb dX8_takeOff_0 (by decide) ?_
  refine lv_istore_n (lv' := [(2, .int 0), (0, .ref (ad k0)), (1, .int p1)]) hx hb dX8_takeOff_1 rfl hl (by decide) rfl (fun ls hl => ?_)
  refine lv_aload_n hx hb dX8_takeOff_2 rfl (lv_at hl 1 rfl) ?_
  refine gX8_behind hk0 X w lfX8_18 dX8_takeOff_3 ?_
  refine lv_iload_n hx hb dX8_takeOff_6 rfl (lv_at hl 2 rfl) ?_
  obtain ⟨g1, hR⟩ := ck_e hR
  refine ialS (n := 7) (ikX8_3 hk0) (lkX8_3 hk0) X w (nkX8_3 hk0) g1 dX8_takeOff_7 ?_
  refine lv_iconst (v := -1) hx hb dX8_takeOff_8 (by decide) ?_
  refine lv_icmp_eq (tgt := 36) hx hb dX8_takeOff_9 (by decide) (fun c2 => ?_) (fun c2 => ?_)
  · rw [if_pos c2] at hR
    exact J36 p1 0 S hR _ _ _ w (lv_sub hl [1, 2, 0] rfl)
  · rw [if_neg c2] at hR
    refine lv_aload_n hx hb dX8_takeOff_12 rfl (lv_at hl 1 rfl) ?_
    refine lv_aload_n hx hb dX8_takeOff_13 rfl (lv_at hl 1 rfl) ?_
    refine gX8_behind hk0 X w lfX8_18 dX8_takeOff_14 ?_
    refine lv_iload_n hx hb dX8_takeOff_17 rfl (lv_at hl 2 rfl) ?_
    obtain ⟨g3, hR⟩ := ck_e hR
    refine ialS (n := 7) (ikX8_3 hk0) (lkX8_3 hk0) X w (nkX8_3 hk0) g3 dX8_takeOff_18 ?_
    obtain ⟨S5, h4, hR⟩ := bd_e hR
    refine cVv (k := k0) (As := [.int (ga S (k0 + 3) p1)]) (rest := []) X hl.1 w okX8_shorten (obX8 hk0) rfl lmX8_92 (kX8_shorten hk0 h4) ⟨Nat.le_of_ble_eq_true rfl, Nat.le_of_ble_eq_true rfl⟩ ⟨rfl, rfl⟩ ⟨Nat.zero_le _, Nat.zero_le _⟩ rfl rfl (Nat.le_of_ble_eq_true rfl) dX8_takeOff_19 (fun H locs w => ?_)
    refine lv_aload_n hx hb dX8_takeOff_22 rfl (lv_at hl 1 rfl) ?_
    refine lv_iload_n hx hb dX8_takeOff_23 rfl (lv_at hl 2 rfl) ?_
    refine lv_aload_n hx hb dX8_takeOff_24 rfl (lv_at hl 1 rfl) ?_
    refine gX8_behind hk0 X w lfX8_18 dX8_takeOff_25 ?_
    refine lv_iload_n hx hb dX8_takeOff_28 rfl (lv_at hl 2 rfl) ?_
    obtain ⟨g6, hR⟩ := ck_e hR
    refine ialS (n := 7) (ikX8_3 hk0) (lkX8_3 hk0) X w (nkX8_3 hk0) g6 dX8_takeOff_29 ?_
    obtain ⟨S8, h7, hR⟩ := bd_e hR
    refine cVv (k := k0) (As := [.int p1, .int (ga S5 (k0 + 3) p1)]) (rest := []) X hl.1 w okX8_part (obX8 hk0) rfl lmX8_96 (kX8_part hk0 h7) ⟨Nat.le_of_ble_eq_true rfl, Nat.le_of_ble_eq_true rfl⟩ ⟨rfl, rfl⟩ ⟨Nat.zero_le _, Nat.zero_le _⟩ rfl rfl (Nat.le_of_ble_eq_true rfl) dX8_takeOff_30 (fun H locs w => ?_)
    obtain ⟨v9, ev9, hR⟩ := lt_e hR
    refine lv_iinc (v := v9) (lv' := [(2, .int v9), (0, .ref (ad k0)), (1, .int p1)]) hx hb dX8_takeOff_33 hl (k := 0) rfl (by rw [ev9]; rfl) (by decide) rfl (fun ls hl => ?_)
    exact J36 p1 v9 S8 hR _ _ _ w (lv_sub hl [1, 2, 0] rfl)
/- LooseEnds$Tape.bytesIn(I)I -/
def fX9_bytesIn_l5 (N : Nat) : Nat → Int32 → Int32 → Int32 → Option (Int32)
  | 0, _, _, _ => none
  | n + 1, x0, x1, x2 => if x2 < 0 then
  (some x1)
  else
  (if ((iu x0 x2) &&& 255) = 0 then
  (lt (x2 + (-8)) fun v3 =>
  fX9_bytesIn_l5 N n x0 x1 v3)
  else
  (lt (x1 + 1) fun v4 =>
  lt (x2 + (-8)) fun v5 =>
  fX9_bytesIn_l5 N n x0 v4 v5))
def fX9_bytesIn (N : Nat) (p0 : Int32) : Option (Int32) := fX9_bytesIn_l5 N N p0 0 24
set_option maxHeartbeats 4000000 in
set_option maxRecDepth 100000 in
theorem kX9_bytesIn {l : Launch} {D : va_G} {dA : Nat → ClassId} {ad : Nat → Nat} {t1 t2 : Nat} {N : Nat} {S T : SS} {o : Nat → Int64} {p0 : Int32} {r : Int32} (hR : fX9_bytesIn N p0 = some r) : KI l D dA ad t1 t2 yX9_bytesIn cX9_bytesIn 3 .int { frames := 0, cells := 0, slots := 0, locals := 0 } [.int p0] S T o r S T := by
  intro sz
  refine en_ (plainFor_of_name (by decide)) (Nat.le_of_ble_eq_true rfl) ?_
  intro p ev s m args below meth c QQ hQ hsz X hr hlk w ls hl
  have hx := X.1
  have hb := X.2.1
  have L5 : ∀ (n : Nat), ∀ (x0 : Int32) (x1 : Int32) (x2 : Int32), fX9_bytesIn_l5 N n x0 x1 x2 = some r → WAT p l ev ({ frames := 0, cells := 0, slots := 0, locals := 0 } : Room) s m args below meth c QQ 3 D dA ad t1 t2 S T o 5 [(0, .int x0), (1, .int x1), (2, .int x2)] [] := by
    intro n
    induction n with
    | zero =>
      intro x0 x1 x2 hR
      exact nomatch hR
    | succ n ih =>
      intro x0 x1 x2 hR H locs ls w hl
      rw [fX9_bytesIn_l5] at hR
      refine lv_iload_n hx hb dX9_bytesIn_5 rfl (lv_at hl 2 rfl) ?_
      refine lv_if_lt (tgt := 28) hx hb dX9_bytesIn_6 (by decide) (fun c1 => ?_) (fun c1 => ?_)
      · rw [if_pos c1] at hR
        refine lv_iload_n hx hb dX9_bytesIn_28 rfl (lv_at hl 1 rfl) ?_
        rw [hQ]
        exact rt_i X hr hlk w hsz rfl rfl rfl (lf1 hR) dX9_bytesIn_29
      · rw [if_neg c1] at hR
        refine lv_iload_n hx hb dX9_bytesIn_9 rfl (lv_at hl 0 rfl) ?_
        refine lv_iload_n hx hb dX9_bytesIn_10 rfl (lv_at hl 2 rfl) ?_
        refine lv_iushr hx hb dX9_bytesIn_11 rfl ?_
        refine lv_sipush (v := 255) hx hb dX9_bytesIn_12 (by decide) ?_
        refine lv_iand hx hb dX9_bytesIn_15 ?_
        refine lv_if_eq (tgt := 22) hx hb dX9_bytesIn_16 (by decide) (fun c2 => ?_) (fun c2 => ?_)
        · rw [if_pos c2] at hR
          obtain ⟨v3, ev3, hR⟩ := lt_e hR
          refine lv_iinc (v := v3) (lv' := [(2, .int v3), (0, .int x0), (1, .int x1)]) hx hb dX9_bytesIn_22 hl (k := 2) rfl (by rw [ev3]; rfl) (by decide) rfl (fun ls hl => ?_)
          refine lv_goto (tgt := 5) hx hb dX9_bytesIn_25 (by decide) ?_
          exact ih x0 x1 v3 hR _ _ _ w (lv_sub hl [1, 2, 0] rfl)
        · rw [if_neg c2] at hR
          obtain ⟨v4, ev4, hR⟩ := lt_e hR
          refine lv_iinc (v := v4) (lv' := [(1, .int v4), (0, .int x0), (2, .int x2)]) hx hb dX9_bytesIn_19 hl (k := 1) rfl (by rw [ev4]; rfl) (by decide) rfl (fun ls hl => ?_)
          obtain ⟨v5, ev5, hR⟩ := lt_e hR
          refine lv_iinc (v := v5) (lv' := [(2, .int v5), (1, .int v4), (0, .int x0)]) hx hb dX9_bytesIn_22 hl (k := 2) rfl (by rw [ev5]; rfl) (by decide) rfl (fun ls hl => ?_)
          refine lv_goto (tgt := 5) hx hb dX9_bytesIn_25 (by decide) ?_
          exact ih x0 v4 v5 hR _ _ _ w (lv_sub hl [2, 1, 0] rfl)
  have hl : lv_has ls 3 [(0, .int p0)] := hl
  unfold fX9_bytesIn at hR
  refine lv_iconst (v := 0) hx hb dX9_bytesIn_0 (by decide) ?_
  refine lv_istore_n (lv' := [(1, .int 0), (0, .int p0)]) hx hb dX9_bytesIn_1 rfl hl (by decide) rfl (fun ls hl => ?_)
  refine lv_bipush (v := 24) hx hb dX9_bytesIn_2 (by decide) ?_
  refine lv_istore_n (lv' := [(2, .int 24), (1, .int 0), (0, .int p0)]) hx hb dX9_bytesIn_4 rfl hl (by decide) rfl (fun ls hl => ?_)
  exact L5 N p0 0 24 hR _ _ _ w (lv_sub hl [2, 1, 0] rfl)
/- LooseEnds$Tape.put(I)V -/
def fX9_put_l3 (N : Nat) : Nat → Int32 → Int32 → SS → Option (SS)
  | 0, _, _, _ => none
  | n + 1, x1, x2, S => if x2 < 0 then
  (some S)
  else
  (lt ((iu x1 x2) &&& 255) fun v2 =>
  if v2 = 0 then
  (lt (x2 + (-8)) fun v4 =>
  fX9_put_l3 N n x1 v4 S)
  else
  (if 240 ≤ (gi S 1 1) then
  (lt (x2 + (-8)) fun v6 =>
  fX9_put_l3 N n x1 v6 S)
  else
  (ck (inb (gi S 1 1) 240) <|
  lt (pa S 2 (gi S 1 1) v2) fun S8 =>
  lt (pj S8 1 1 ((gi S8 1 1) + 1)) fun S9 =>
  lt (x2 + (-8)) fun v10 =>
  fX9_put_l3 N n x1 v10 S9)))
def fX9_put (N : Nat) (S : SS) (p1 : Int32) : Option (SS) := fX9_put_l3 N N p1 24 S
set_option maxHeartbeats 4000000 in
set_option maxRecDepth 100000 in
theorem kX9_put {l : Launch} {D : va_G} {dA : Nat → ClassId} {ad : Nat → Nat} {t1 t2 : Nat} {N : Nat} {S T : SS} {o : Nat → Int64} {p1 : Int32} {S' : SS} (hR : fX9_put N S p1 = some S') : KV l D dA ad t1 t2 yX9_put cX9_put 4 { frames := 0, cells := 0, slots := 0, locals := 0 } [.ref (ad 1), .int p1] S T o S' T := by
  intro sz
  refine en_ (plainFor_of_name (by decide)) (Nat.le_of_ble_eq_true rfl) ?_
  intro p ev s m args below meth c QQ hQ hsz X hr hlk w ls hl
  have hx := X.1
  have hb := X.2.1
  have L3 : ∀ (n : Nat), ∀ (x1 : Int32) (x2 : Int32) (S : SS), fX9_put_l3 N n x1 x2 S = some S' → WAT p l ev ({ frames := 0, cells := 0, slots := 0, locals := 0 } : Room) s m args below meth c QQ 4 D dA ad t1 t2 S T o 3 [(0, .ref (ad 1)), (1, .int x1), (2, .int x2)] [] := by
    intro n
    induction n with
    | zero =>
      intro x1 x2 S hR
      exact nomatch hR
    | succ n ih =>
      intro x1 x2 S hR H locs ls w hl
      rw [fX9_put_l3] at hR
      refine lv_iload_n hx hb dX9_put_3 rfl (lv_at hl 2 rfl) ?_
      refine lv_if_lt (tgt := 57) hx hb dX9_put_4 (by decide) (fun c1 => ?_) (fun c1 => ?_)
      · rw [if_pos c1] at hR
        rw [hQ]
        exact rt_v X hr hlk w hsz (lf1 hR) rfl dX9_put_57
      · rw [if_neg c1] at hR
        refine lv_iload_n hx hb dX9_put_7 rfl (lv_at hl 1 rfl) ?_
        refine lv_iload_n hx hb dX9_put_8 rfl (lv_at hl 2 rfl) ?_
        refine lv_iushr hx hb dX9_put_9 rfl ?_
        refine lv_sipush (v := 255) hx hb dX9_put_10 (by decide) ?_
        refine lv_iand hx hb dX9_put_13 ?_
        obtain ⟨v2, ev2, hR⟩ := lt_e hR
        refine nm_i ev2 ?_
        refine lv_istore_n (lv' := [(3, .int v2), (0, .ref (ad 1)), (1, .int x1), (2, .int x2)]) hx hb dX9_put_14 rfl hl (by decide) rfl (fun ls hl => ?_)
        refine lv_iload_n hx hb dX9_put_15 rfl (lv_at hl 0 rfl) ?_
        refine lv_if_eq (tgt := 51) hx hb dX9_put_16 (by decide) (fun c3 => ?_) (fun c3 => ?_)
        · rw [if_pos c3] at hR
          obtain ⟨v4, ev4, hR⟩ := lt_e hR
          refine lv_iinc (v := v4) (lv' := [(2, .int v4), (3, .int v2), (0, .ref (ad 1)), (1, .int x1)]) hx hb dX9_put_51 hl (k := 3) rfl (by rw [ev4]; rfl) (by decide) rfl (fun ls hl => ?_)
          refine lv_goto (tgt := 3) hx hb dX9_put_54 (by decide) ?_
          exact ih x1 v4 S hR _ _ _ w (lv_sub hl [2, 3, 0] rfl)
        · rw [if_neg c3] at hR
          refine lv_aload_n hx hb dX9_put_19 rfl (lv_at hl 1 rfl) ?_
          refine gX9_length X w lfX9_15 dX9_put_20 ?_
          refine lv_aload_n hx hb dX9_put_23 rfl (lv_at hl 1 rfl) ?_
          refine gX9_bytes X w lfX9_9 dX9_put_24 ?_
          refine lenS rfl (by decide) X w (v := 240) (by rw [show aln _ _ = 240 from rfl]; rfl) dX9_put_27 ?_
          refine lv_icmp_ge (tgt := 51) hx hb dX9_put_28 (by decide) (fun c5 => ?_) (fun c5 => ?_)
          · rw [if_pos c5] at hR
            obtain ⟨v6, ev6, hR⟩ := lt_e hR
            refine lv_iinc (v := v6) (lv' := [(2, .int v6), (3, .int v2), (0, .ref (ad 1)), (1, .int x1)]) hx hb dX9_put_51 hl (k := 3) rfl (by rw [ev6]; rfl) (by decide) rfl (fun ls hl => ?_)
            refine lv_goto (tgt := 3) hx hb dX9_put_54 (by decide) ?_
            exact ih x1 v6 S hR _ _ _ w (lv_sub hl [2, 3, 0] rfl)
          · rw [if_neg c5] at hR
            refine lv_aload_n hx hb dX9_put_31 rfl (lv_at hl 1 rfl) ?_
            refine gX9_bytes X w lfX9_9 dX9_put_32 ?_
            refine lv_aload_n hx hb dX9_put_35 rfl (lv_at hl 1 rfl) ?_
            refine gX9_length X w lfX9_15 dX9_put_36 ?_
            refine lv_iload_n hx hb dX9_put_39 rfl (lv_at hl 0 rfl) ?_
            obtain ⟨g7, hR⟩ := ck_e hR
            obtain ⟨S8, eS8, hR⟩ := lt_e hR
            refine iasS (n := 240) rfl (by decide) X w rfl g7 dX9_put_40 (fun H locs w => ?_)
            rw [← eS8] at w
            refine lv_aload_n hx hb dX9_put_41 rfl (lv_at hl 1 rfl) ?_
            refine lv_dup hx hb dX9_put_42 rfl ?_
            refine gX9_length X w lfX9_15 dX9_put_43 ?_
            refine lv_iconst (v := 1) hx hb dX9_put_46 (by decide) ?_
            refine lv_iadd hx hb dX9_put_47 ?_
            obtain ⟨S9, eS9, hR⟩ := lt_e hR
            refine pX9_length X w lfX9_15 dX9_put_48 (fun H locs w => ?_)
            rw [← eS9] at w
            obtain ⟨v10, ev10, hR⟩ := lt_e hR
            refine lv_iinc (v := v10) (lv' := [(2, .int v10), (3, .int v2), (0, .ref (ad 1)), (1, .int x1)]) hx hb dX9_put_51 hl (k := 3) rfl (by rw [ev10]; rfl) (by decide) rfl (fun ls hl => ?_)
            refine lv_goto (tgt := 3) hx hb dX9_put_54 (by decide) ?_
            exact ih x1 v10 S9 hR _ _ _ w (lv_sub hl [2, 3, 0] rfl)
  have hl : lv_has ls 4 [(0, .ref (ad 1)), (1, .int p1)] := hl
  unfold fX9_put at hR
  refine lv_bipush (v := 24) hx hb dX9_put_0 (by decide) ?_
  refine lv_istore_n (lv' := [(2, .int 24), (0, .ref (ad 1)), (1, .int p1)]) hx hb dX9_put_2 rfl hl (by decide) rfl (fun ls hl => ?_)
  exact L3 N p1 24 S hR _ _ _ w (lv_sub hl [1, 2, 0] rfl)
/- LooseEnds$Works.tryRefusal(LLooseEnds$State;II)I -/
def fX10_tryRefusal (N : Nat) (S : SS) (k1 : Nat) (p2 : Int32) (p3 : Int32) : Option (Int32) := bd (fX5_has N S 3 p2) fun r2 =>
  if r2 = 0 then
  (some 0)
  else
  (bd (fX5_has N S 3 p3) fun r5 =>
  if r5 = 0 then
  (some 0)
  else
  (if p2 = p3 then
  (some 1)
  else
  (bd (fX8_isOpen N S k1 p2 p3) fun r9 =>
  if r9 = 0 then
  (some 2)
  else
  (if (gi S k1 6) < (gi S 3 3) then
  (some (-1))
  else
  (some 3)))))
set_option maxHeartbeats 4000000 in
set_option maxRecDepth 100000 in
theorem kX10_tryRefusal {l : Launch} {D : va_G} {dA : Nat → ClassId} {ad : Nat → Nat} {t1 t2 : Nat} {N : Nat} {k1 : Nat} (hk1 : k1 = 18 ∨ k1 = 30) {S T : SS} {o : Nat → Int64} {p2 : Int32} {p3 : Int32} {r : Int32} (hR : fX10_tryRefusal N S k1 p2 p3 = some r) : KI l D dA ad t1 t2 yX10_tryRefusal cX10_tryRefusal 4 .int { frames := 2, cells := 0, slots := 0, locals := 45 } [.ref (ad 28), .ref (ad k1), .int p2, .int p3] S T o r S T := by
  intro sz
  refine en_ (plainFor_of_name (by decide)) (Nat.le_of_ble_eq_true rfl) ?_
  intro p ev s m args below meth c QQ hQ hsz X hr hlk w ls hl
  have hx := X.1
  have hb := X.2.1
  have hl : lv_has ls 4 [(0, .ref (ad 28)), (1, .ref (ad k1)), (2, .int p2), (3, .int p3)] := hl
  unfold fX10_tryRefusal at hR
  refine lv_aload_n hx hb dX10_tryRefusal_0 rfl (lv_at hl 0 rfl) ?_
  refine gX10_mill X w lfX10_9 dX10_tryRefusal_1 ?_
  refine lv_iload_n hx hb dX10_tryRefusal_4 rfl (lv_at hl 2 rfl) ?_
  obtain ⟨r2, h1, hR⟩ := bd_e hR
  refine cVi (k := 3) (As := [.int p2]) (rest := []) X hl.1 w okX5_has (obX5 (Or.inl rfl)) rfl lmX10_53 (kX5_has (Or.inl rfl) h1) ⟨Nat.le_of_ble_eq_true rfl, Nat.le_of_ble_eq_true rfl⟩ ⟨rfl, rfl⟩ ⟨Nat.zero_le _, Nat.zero_le _⟩ rfl rfl (Nat.le_of_ble_eq_true rfl) dX10_tryRefusal_5 (fun H locs zr2 w => ?_)
  refine lv_if_eq (tgt := 22) hx hb dX10_tryRefusal_8 (by decide) (fun c3 => ?_) (fun c3 => ?_)
  · rw [if_pos c3] at hR
    refine lv_iconst (v := 0) hx hb dX10_tryRefusal_22 (by decide) ?_
    rw [hQ]
    exact rt_i X hr hlk w hsz rfl rfl rfl (lf1 hR) dX10_tryRefusal_23
  · rw [if_neg c3] at hR
    refine lv_aload_n hx hb dX10_tryRefusal_11 rfl (lv_at hl 0 rfl) ?_
    refine gX10_mill X w lfX10_9 dX10_tryRefusal_12 ?_
    refine lv_iload_n hx hb dX10_tryRefusal_15 rfl (lv_at hl 3 rfl) ?_
    obtain ⟨r5, h4, hR⟩ := bd_e hR
    refine cVi (k := 3) (As := [.int p3]) (rest := []) X hl.1 w okX5_has (obX5 (Or.inl rfl)) rfl lmX10_53 (kX5_has (Or.inl rfl) h4) ⟨Nat.le_of_ble_eq_true rfl, Nat.le_of_ble_eq_true rfl⟩ ⟨rfl, rfl⟩ ⟨Nat.zero_le _, Nat.zero_le _⟩ rfl rfl (Nat.le_of_ble_eq_true rfl) dX10_tryRefusal_16 (fun H locs zr5 w => ?_)
    refine lv_if_ne (tgt := 24) hx hb dX10_tryRefusal_19 (by decide) (fun c6 => ?_) (fun c6 => ?_)
    · rw [if_neg c6] at hR
      refine lv_iload_n hx hb dX10_tryRefusal_24 rfl (lv_at hl 2 rfl) ?_
      refine lv_iload_n hx hb dX10_tryRefusal_25 rfl (lv_at hl 3 rfl) ?_
      refine lv_icmp_ne (tgt := 31) hx hb dX10_tryRefusal_26 (by decide) (fun c7 => ?_) (fun c7 => ?_)
      · rw [if_neg c7] at hR
        refine lv_aload_n hx hb dX10_tryRefusal_31 rfl (lv_at hl 1 rfl) ?_
        refine lv_iload_n hx hb dX10_tryRefusal_32 rfl (lv_at hl 2 rfl) ?_
        refine lv_iload_n hx hb dX10_tryRefusal_33 rfl (lv_at hl 3 rfl) ?_
        obtain ⟨r9, h8, hR⟩ := bd_e hR
        refine cVi (k := k1) (As := [.int p2, .int p3]) (rest := []) X hl.1 w okX8_isOpen (obX8 hk1) rfl lmX10_57 (kX8_isOpen hk1 h8) ⟨Nat.le_of_ble_eq_true rfl, Nat.le_of_ble_eq_true rfl⟩ ⟨rfl, rfl⟩ ⟨Nat.zero_le _, Nat.zero_le _⟩ rfl rfl (Nat.le_of_ble_eq_true rfl) dX10_tryRefusal_34 (fun H locs zr9 w => ?_)
        refine lv_if_ne (tgt := 42) hx hb dX10_tryRefusal_37 (by decide) (fun c10 => ?_) (fun c10 => ?_)
        · rw [if_neg c10] at hR
          refine lv_aload_n hx hb dX10_tryRefusal_42 rfl (lv_at hl 1 rfl) ?_
          refine gX8_tries hk1 X w lfX10_61 dX10_tryRefusal_43 ?_
          refine lv_aload_n hx hb dX10_tryRefusal_46 rfl (lv_at hl 0 rfl) ?_
          refine gX10_mill X w lfX10_9 dX10_tryRefusal_47 ?_
          refine gX5_girls (Or.inl rfl) X w lfX10_64 dX10_tryRefusal_50 ?_
          refine lv_icmp_lt (tgt := 60) hx hb dX10_tryRefusal_53 (by decide) (fun c11 => ?_) (fun c11 => ?_)
          · rw [if_pos c11] at hR
            refine lv_iconst (v := -1) hx hb dX10_tryRefusal_60 (by decide) ?_
            rw [hQ]
            exact rt_i X hr hlk w hsz rfl rfl rfl (lf1 hR) dX10_tryRefusal_61
          · rw [if_neg c11] at hR
            refine lv_iconst (v := 3) hx hb dX10_tryRefusal_56 (by decide) ?_
            refine lv_goto (tgt := 61) hx hb dX10_tryRefusal_57 (by decide) ?_
            rw [hQ]
            exact rt_i X hr hlk w hsz rfl rfl rfl (lf1 hR) dX10_tryRefusal_61
        · rw [if_pos c10] at hR
          refine lv_iconst (v := 2) hx hb dX10_tryRefusal_40 (by decide) ?_
          rw [hQ]
          exact rt_i X hr hlk w hsz rfl rfl rfl (lf1 hR) dX10_tryRefusal_41
      · rw [if_pos c7] at hR
        refine lv_iconst (v := 1) hx hb dX10_tryRefusal_29 (by decide) ?_
        rw [hQ]
        exact rt_i X hr hlk w hsz rfl rfl rfl (lf1 hR) dX10_tryRefusal_30
    · rw [if_pos c6] at hR
      refine lv_iconst (v := 0) hx hb dX10_tryRefusal_22 (by decide) ?_
      rw [hQ]
      exact rt_i X hr hlk w hsz rfl rfl rfl (lf1 hR) dX10_tryRefusal_23
/- LooseEnds$Works.pullRefusal(LLooseEnds$State;I)I -/
def fX10_pullRefusal (N : Nat) (S : SS) (k1 : Nat) (p2 : Int32) : Option (Int32) := bd (fX5_has N S 3 p2) fun r2 =>
  if r2 = 0 then
  (some 0)
  else
  (bd (fX8_isSold N S k1 p2) fun r5 =>
  if r5 = 0 then
  (bd (fX8_isKnotted N S k1 p2) fun r8 =>
  if r8 = 0 then
  (some 3)
  else
  (some (-1)))
  else
  (some 2))
set_option maxHeartbeats 4000000 in
set_option maxRecDepth 100000 in
theorem kX10_pullRefusal {l : Launch} {D : va_G} {dA : Nat → ClassId} {ad : Nat → Nat} {t1 t2 : Nat} {N : Nat} {k1 : Nat} (hk1 : k1 = 18 ∨ k1 = 30) {S T : SS} {o : Nat → Int64} {p2 : Int32} {r : Int32} (hR : fX10_pullRefusal N S k1 p2 = some r) : KI l D dA ad t1 t2 yX10_pullRefusal cX10_pullRefusal 3 .int { frames := 1, cells := 0, slots := 0, locals := 21 } [.ref (ad 28), .ref (ad k1), .int p2] S T o r S T := by
  intro sz
  refine en_ (plainFor_of_name (by decide)) (Nat.le_of_ble_eq_true rfl) ?_
  intro p ev s m args below meth c QQ hQ hsz X hr hlk w ls hl
  have hx := X.1
  have hb := X.2.1
  have hl : lv_has ls 3 [(0, .ref (ad 28)), (1, .ref (ad k1)), (2, .int p2)] := hl
  unfold fX10_pullRefusal at hR
  refine lv_aload_n hx hb dX10_pullRefusal_0 rfl (lv_at hl 0 rfl) ?_
  refine gX10_mill X w lfX10_9 dX10_pullRefusal_1 ?_
  refine lv_iload_n hx hb dX10_pullRefusal_4 rfl (lv_at hl 2 rfl) ?_
  obtain ⟨r2, h1, hR⟩ := bd_e hR
  refine cVi (k := 3) (As := [.int p2]) (rest := []) X hl.1 w okX5_has (obX5 (Or.inl rfl)) rfl lmX10_53 (kX5_has (Or.inl rfl) h1) ⟨Nat.le_of_ble_eq_true rfl, Nat.le_of_ble_eq_true rfl⟩ ⟨rfl, rfl⟩ ⟨Nat.zero_le _, Nat.zero_le _⟩ rfl rfl (Nat.le_of_ble_eq_true rfl) dX10_pullRefusal_5 (fun H locs zr2 w => ?_)
  refine lv_if_ne (tgt := 13) hx hb dX10_pullRefusal_8 (by decide) (fun c3 => ?_) (fun c3 => ?_)
  · rw [if_neg c3] at hR
    refine lv_aload_n hx hb dX10_pullRefusal_13 rfl (lv_at hl 1 rfl) ?_
    refine lv_iload_n hx hb dX10_pullRefusal_14 rfl (lv_at hl 2 rfl) ?_
    obtain ⟨r5, h4, hR⟩ := bd_e hR
    refine cVi (k := k1) (As := [.int p2]) (rest := []) X hl.1 w okX8_isSold (obX8 hk1) rfl lmX10_87 (kX8_isSold hk1 h4) ⟨Nat.le_of_ble_eq_true rfl, Nat.le_of_ble_eq_true rfl⟩ ⟨rfl, rfl⟩ ⟨Nat.zero_le _, Nat.zero_le _⟩ rfl rfl (Nat.le_of_ble_eq_true rfl) dX10_pullRefusal_15 (fun H locs zr5 w => ?_)
    refine lv_if_eq (tgt := 23) hx hb dX10_pullRefusal_18 (by decide) (fun c6 => ?_) (fun c6 => ?_)
    · rw [if_pos c6] at hR
      refine lv_aload_n hx hb dX10_pullRefusal_23 rfl (lv_at hl 1 rfl) ?_
      refine lv_iload_n hx hb dX10_pullRefusal_24 rfl (lv_at hl 2 rfl) ?_
      obtain ⟨r8, h7, hR⟩ := bd_e hR
      refine cVi (k := k1) (As := [.int p2]) (rest := []) X hl.1 w okX8_isKnotted (obX8 hk1) rfl lmX10_90 (kX8_isKnotted hk1 h7) ⟨Nat.le_of_ble_eq_true rfl, Nat.le_of_ble_eq_true rfl⟩ ⟨rfl, rfl⟩ ⟨Nat.zero_le _, Nat.zero_le _⟩ rfl rfl (Nat.le_of_ble_eq_true rfl) dX10_pullRefusal_25 (fun H locs zr8 w => ?_)
      refine lv_if_eq (tgt := 35) hx hb dX10_pullRefusal_28 (by decide) (fun c9 => ?_) (fun c9 => ?_)
      · rw [if_pos c9] at hR
        refine lv_iconst (v := 3) hx hb dX10_pullRefusal_35 (by decide) ?_
        rw [hQ]
        exact rt_i X hr hlk w hsz rfl rfl rfl (lf1 hR) dX10_pullRefusal_36
      · rw [if_neg c9] at hR
        refine lv_iconst (v := -1) hx hb dX10_pullRefusal_31 (by decide) ?_
        refine lv_goto (tgt := 36) hx hb dX10_pullRefusal_32 (by decide) ?_
        rw [hQ]
        exact rt_i X hr hlk w hsz rfl rfl rfl (lf1 hR) dX10_pullRefusal_36
    · rw [if_neg c6] at hR
      refine lv_iconst (v := 2) hx hb dX10_pullRefusal_21 (by decide) ?_
      rw [hQ]
      exact rt_i X hr hlk w hsz rfl rfl rfl (lf1 hR) dX10_pullRefusal_22
  · rw [if_pos c3] at hR
    refine lv_iconst (v := 0) hx hb dX10_pullRefusal_11 (by decide) ?_
    rw [hQ]
    exact rt_i X hr hlk w hsz rfl rfl rfl (lf1 hR) dX10_pullRefusal_12
/- LooseEnds$Works.passDay(LLooseEnds$State;)V -/
def fX10_passDay (N : Nat) (S : SS) (k1 : Nat) : Option (SS) := bd (fX4_writeDay N S k1) fun S2 =>
  lt (pj S2 k1 6 0) fun S3 =>
  lt (pj S3 k1 7 0) fun S4 =>
  lt (pj S4 k1 8 (mn 9999 ((gi S4 k1 8) + 1))) fun S5 =>
  lt (pj S5 k1 9 ((gi S5 k1 9) + 1)) fun S6 =>
  some S6
set_option maxHeartbeats 4000000 in
set_option maxRecDepth 100000 in
theorem kX10_passDay {l : Launch} {D : va_G} {dA : Nat → ClassId} {ad : Nat → Nat} {t1 t2 : Nat} {N : Nat} {k1 : Nat} (hk1 : k1 = 18 ∨ k1 = 30) {S T : SS} {o : Nat → Int64} {S' : SS} (hR : fX10_passDay N S k1 = some S') : KV l D dA ad t1 t2 yX10_passDay cX10_passDay 2 { frames := 3, cells := 0, slots := 0, locals := 64 } [.ref (ad 28), .ref (ad k1)] S T o S' T := by
  intro sz
  refine en_ (plainFor_of_name (by decide)) (Nat.le_of_ble_eq_true rfl) ?_
  intro p ev s m args below meth c QQ hQ hsz X hr hlk w ls hl
  have hx := X.1
  have hb := X.2.1
  have hl : lv_has ls 2 [(0, .ref (ad 28)), (1, .ref (ad k1))] := hl
  unfold fX10_passDay at hR
  refine lv_aload_n hx hb dX10_passDay_0 rfl (lv_at hl 0 rfl) ?_
  refine gX10_memory X w lfX10_19 dX10_passDay_1 ?_
  refine lv_aload_n hx hb dX10_passDay_4 rfl (lv_at hl 1 rfl) ?_
  obtain ⟨S2, h1, hR⟩ := bd_e hR
  refine cVv (k := 23) (As := [.ref (ad k1)]) (rest := []) X hl.1 w okX4_writeDay obX4 rfl lmX10_93 (kX4_writeDay hk1 h1) ⟨Nat.le_of_ble_eq_true rfl, Nat.le_of_ble_eq_true rfl⟩ ⟨rfl, rfl⟩ ⟨Nat.zero_le _, Nat.zero_le _⟩ rfl rfl (Nat.le_of_ble_eq_true rfl) dX10_passDay_5 (fun H locs w => ?_)
  refine lv_aload_n hx hb dX10_passDay_8 rfl (lv_at hl 1 rfl) ?_
  refine lv_iconst (v := 0) hx hb dX10_passDay_9 (by decide) ?_
  obtain ⟨S3, eS3, hR⟩ := lt_e hR
  refine pX8_tries hk1 X w lfX10_61 dX10_passDay_10 (fun H locs w => ?_)
  rw [← eS3] at w
  refine lv_aload_n hx hb dX10_passDay_13 rfl (lv_at hl 1 rfl) ?_
  refine lv_iconst (v := 0) hx hb dX10_passDay_14 (by decide) ?_
  obtain ⟨S4, eS4, hR⟩ := lt_e hR
  refine pX8_made hk1 X w lfX10_78 dX10_passDay_15 (fun H locs w => ?_)
  rw [← eS4] at w
  refine lv_aload_n hx hb dX10_passDay_18 rfl (lv_at hl 1 rfl) ?_
  refine lv_sipush (v := 9999) hx hb dX10_passDay_19 (by decide) ?_
  refine lv_aload_n hx hb dX10_passDay_22 rfl (lv_at hl 1 rfl) ?_
  refine gX8_coins hk1 X w lfX10_99 dX10_passDay_23 ?_
  refine lv_iconst (v := 1) hx hb dX10_passDay_26 (by decide) ?_
  refine lv_iadd hx hb dX10_passDay_27 ?_
  refine mnI X hl.1 lmX10_102 ⟨Nat.le_of_ble_eq_true rfl, Nat.le_of_ble_eq_true rfl⟩ ⟨Nat.zero_le _, Nat.zero_le _⟩ dX10_passDay_28 ?_
  obtain ⟨S5, eS5, hR⟩ := lt_e hR
  refine pX8_coins hk1 X w lfX10_99 dX10_passDay_31 (fun H locs w => ?_)
  rw [← eS5] at w
  refine lv_aload_n hx hb dX10_passDay_34 rfl (lv_at hl 1 rfl) ?_
  refine lv_dup hx hb dX10_passDay_35 rfl ?_
  refine gX8_day hk1 X w lfX10_43 dX10_passDay_36 ?_
  refine lv_iconst (v := 1) hx hb dX10_passDay_39 (by decide) ?_
  refine lv_iadd hx hb dX10_passDay_40 ?_
  obtain ⟨S6, eS6, hR⟩ := lt_e hR
  refine pX8_day hk1 X w lfX10_43 dX10_passDay_41 (fun H locs w => ?_)
  rw [← eS6] at w
  rw [hQ]
  exact rt_v X hr hlk w hsz (lf1 hR) rfl dX10_passDay_44
/- LooseEnds$Works.draw(I)I -/
def fX10_draw (N : Nat) (S : SS) (p1 : Int32) : Option (SS × Int32) := lt (pl S (((gl S) * 6364136223846793005) + 1442695040888963407)) fun S1 =>
  if p1 ≤ 0 then
  (some (S1, 0))
  else
  (ck (decide (¬ ((p1 : Int32).toInt64) = 0)) <|
  some (S1, (lrm (lus (gl S1) 33) ((p1 : Int32).toInt64) : Int64).toInt32))
set_option maxHeartbeats 4000000 in
set_option maxRecDepth 100000 in
theorem kX10_draw {l : Launch} {D : va_G} {dA : Nat → ClassId} {ad : Nat → Nat} {t1 t2 : Nat} {N : Nat} {S T : SS} {o : Nat → Int64} {p1 : Int32} {r : Int32} {S' : SS} (hR : fX10_draw N S p1 = some (S', r)) : KI l D dA ad t1 t2 yX10_draw cX10_draw 2 .int { frames := 0, cells := 0, slots := 0, locals := 0 } [.ref (ad 28), .int p1] S T o r S' T := by
  intro sz
  refine en_ (plainFor_of_name (by decide)) (Nat.le_of_ble_eq_true rfl) ?_
  intro p ev s m args below meth c QQ hQ hsz X hr hlk w ls hl
  have hx := X.1
  have hb := X.2.1
  have hl : lv_has ls 2 [(0, .ref (ad 28)), (1, .int p1)] := hl
  unfold fX10_draw at hR
  refine lv_aload_n hx hb dX10_draw_0 rfl (lv_at hl 0 rfl) ?_
  refine lv_aload_n hx hb dX10_draw_1 rfl (lv_at hl 0 rfl) ?_
  refine gX10_seed X w lfX10_130 dX10_draw_2 ?_
  refine lv_ldc2 X.1 X.2.1 X.2.2.2.1 (X.2.2.2.2 _ lcX10_134) dX10_draw_5 ?_
  refine lv_lmul hx hb dX10_draw_8 ?_
  refine lv_ldc2 X.1 X.2.1 X.2.2.2.1 (X.2.2.2.2 _ lcX10_136) dX10_draw_9 ?_
  refine lv_ladd hx hb dX10_draw_12 ?_
  obtain ⟨S1, eS1, hR⟩ := lt_e hR
  refine pX10_seed X w lfX10_130 dX10_draw_13 (fun H locs w => ?_)
  rw [← eS1] at w
  refine lv_iload_n hx hb dX10_draw_16 rfl (lv_at hl 1 rfl) ?_
  refine lv_if_le (tgt := 34) hx hb dX10_draw_17 (by decide) (fun c2 => ?_) (fun c2 => ?_)
  · rw [if_pos c2] at hR
    refine lv_iconst (v := 0) hx hb dX10_draw_34 (by decide) ?_
    rw [hQ]
    exact rt_i X hr hlk w hsz rfl (lf2 hR).1 rfl (lf2 hR).2 dX10_draw_35
  · rw [if_neg c2] at hR
    refine lv_aload_n hx hb dX10_draw_20 rfl (lv_at hl 0 rfl) ?_
    refine gX10_seed X w lfX10_130 dX10_draw_21 ?_
    refine lv_bipush (v := 33) hx hb dX10_draw_24 (by decide) ?_
    refine lv_lushr hx hb dX10_draw_26 rfl ?_
    refine lv_iload_n hx hb dX10_draw_27 rfl (lv_at hl 1 rfl) ?_
    refine lv_i2l hx hb dX10_draw_28 rfl ?_
    obtain ⟨g3, hR⟩ := ck_e hR
    refine lv_lrem hx hb dX10_draw_29 (of_decide_eq_true g3) ?_
    refine lv_l2i hx hb dX10_draw_30 rfl ?_
    refine lv_goto (tgt := 35) hx hb dX10_draw_31 (by decide) ?_
    rw [hQ]
    exact rt_i X hr hlk w hsz rfl (lf2 hR).1 rfl (lf2 hR).2 dX10_draw_35
/- LooseEnds$Works.drawDay(LLooseEnds$State;I)V -/
def fX10_drawDay_j100 (N : Nat) (k1 : Nat) (S : SS) : Option (SS) := bd (fX10_passDay N S k1) fun S2 =>
  some S2
def fX10_drawDay_l2 (N : Nat) (k1 : Nat) : Nat → Int32 → Int32 → SS → Option (SS)
  | 0, _, _, _ => none
  | n + 1, x2, x3, S => if 3 ≤ x3 then
  (b2 (fX10_draw N S 10) fun S4 r3 =>
  if x2 ≤ r3 then
  (fX10_drawDay_j100 N k1 S4)
  else
  (b2 (fX10_draw N S4 (gi S4 3 0)) fun S8 r7 =>
  bd (fX10_pullRefusal N S8 k1 r7) fun r10 =>
  if r10 = (-1) then
  (b2 (fX8_takeOff N S8 k1 r7) fun S14 r13 =>
  fX10_drawDay_j100 N k1 S14)
  else
  (fX10_drawDay_j100 N k1 S8)))
  else
  (b2 (fX10_draw N S (gi S 3 0)) fun S17 r16 =>
  b2 (fX10_draw N S17 (gi S17 3 0)) fun S20 r19 =>
  bd (fX10_tryRefusal N S20 k1 r16 r19) fun r22 =>
  if r22 = (-1) then
  (b2 (fX10_tryOn N S20 k1 r16 r19) fun S27 r26 =>
  lt (x3 + 1) fun v28 =>
  fX10_drawDay_l2 N k1 n x2 v28 S27)
  else
  (lt (x3 + 1) fun v24 =>
  fX10_drawDay_l2 N k1 n x2 v24 S20))
def fX10_drawDay (N : Nat) (S : SS) (k1 : Nat) (p2 : Int32) : Option (SS) := fX10_drawDay_l2 N k1 N p2 0 S
set_option maxHeartbeats 4000000 in
set_option maxRecDepth 100000 in
theorem kX10_drawDay {l : Launch} {D : va_G} {dA : Nat → ClassId} {ad : Nat → Nat} {t1 t2 : Nat} {N : Nat} {k1 : Nat} (hk1 : k1 = 18 ∨ k1 = 30) {S T : SS} {o : Nat → Int64} {p2 : Int32} {S' : SS} (hR : fX10_drawDay N S k1 p2 = some S') : KV l D dA ad t1 t2 yX10_drawDay cX10_drawDay 6 { frames := 5, cells := 0, slots := 0, locals := 125 } [.ref (ad 28), .ref (ad k1), .int p2] S T o S' T := by
  intro sz
  refine en_ (plainFor_of_name (by decide)) (Nat.le_of_ble_eq_true rfl) ?_
  intro p ev s m args below meth c QQ hQ hsz X hr hlk w ls hl
  have hx := X.1
  have hb := X.2.1
  have J100 : ∀ (S : SS), fX10_drawDay_j100 N k1 S = some S' → WAT p l ev ({ frames := 5, cells := 0, slots := 0, locals := 125 } : Room) s m args below meth c QQ 6 D dA ad t1 t2 S T o 100 [(0, .ref (ad 28)), (1, .ref (ad k1))] [] := by
    intro S hR H locs ls w hl
    unfold fX10_drawDay_j100 at hR
    refine lv_aload_n hx hb dX10_drawDay_100 rfl (lv_at hl 0 rfl) ?_
    refine lv_aload_n hx hb dX10_drawDay_101 rfl (lv_at hl 1 rfl) ?_
    obtain ⟨S2, h1, hR⟩ := bd_e hR
    refine cVv (k := 28) (As := [.ref (ad k1)]) (rest := []) X hl.1 w okX10_passDay obX10 rfl lmX10_127 (kX10_passDay hk1 h1) ⟨Nat.le_of_ble_eq_true rfl, Nat.le_of_ble_eq_true rfl⟩ ⟨rfl, rfl⟩ ⟨Nat.zero_le _, Nat.zero_le _⟩ rfl rfl (Nat.le_of_ble_eq_true rfl) dX10_drawDay_102 (fun H locs w => ?_)
    rw [hQ]
    exact rt_v X hr hlk w hsz (lf1 hR) rfl dX10_drawDay_105
  have L2 : ∀ (n : Nat), ∀ (x2 : Int32) (x3 : Int32) (S : SS), fX10_drawDay_l2 N k1 n x2 x3 S = some S' → WAT p l ev ({ frames := 5, cells := 0, slots := 0, locals := 125 } : Room) s m args below meth c QQ 6 D dA ad t1 t2 S T o 2 [(0, .ref (ad 28)), (1, .ref (ad k1)), (2, .int x2), (3, .int x3)] [] := by
    intro n
    induction n with
    | zero =>
      intro x2 x3 S hR
      exact nomatch hR
    | succ n ih =>
      intro x2 x3 S hR H locs ls w hl
      rw [fX10_drawDay_l2] at hR
      refine lv_iload_n hx hb dX10_drawDay_2 rfl (lv_at hl 3 rfl) ?_
      refine lv_iconst (v := 3) hx hb dX10_drawDay_3 (by decide) ?_
      refine lv_icmp_ge (tgt := 62) hx hb dX10_drawDay_4 (by decide) (fun c1 => ?_) (fun c1 => ?_)
      · rw [if_pos c1] at hR
        refine lv_aload_n hx hb dX10_drawDay_62 rfl (lv_at hl 0 rfl) ?_
        refine lv_bipush (v := 10) hx hb dX10_drawDay_63 (by decide) ?_
        obtain ⟨S4, r3, h2, hR⟩ := b2_e hR
        refine cVi (k := 28) (As := [.int 10]) (rest := []) X hl.1 w okX10_draw obX10 rfl lmX10_109 (kX10_draw h2) ⟨Nat.le_of_ble_eq_true rfl, Nat.le_of_ble_eq_true rfl⟩ ⟨rfl, rfl⟩ ⟨Nat.zero_le _, Nat.zero_le _⟩ rfl rfl (Nat.le_of_ble_eq_true rfl) dX10_drawDay_65 (fun H locs zr3 w => ?_)
        refine lv_iload_n hx hb dX10_drawDay_68 rfl (lv_at hl 2 rfl) ?_
        refine lv_icmp_ge (tgt := 100) hx hb dX10_drawDay_69 (by decide) (fun c5 => ?_) (fun c5 => ?_)
        · rw [if_pos c5] at hR
          exact J100 S4 hR _ _ _ w (lv_sub hl [0, 1] rfl)
        · rw [if_neg c5] at hR
          refine lv_aload_n hx hb dX10_drawDay_72 rfl (lv_at hl 0 rfl) ?_
          refine lv_aload_n hx hb dX10_drawDay_73 rfl (lv_at hl 0 rfl) ?_
          refine gX10_mill X w lfX10_9 dX10_drawDay_74 ?_
          refine gX5_ends (Or.inl rfl) X w lfX10_106 dX10_drawDay_77 ?_
          obtain ⟨S8, r7, h6, hR⟩ := b2_e hR
          refine cVi (k := 28) (As := [.int (gi S4 3 0)]) (rest := []) X hl.1 w okX10_draw obX10 rfl lmX10_109 (kX10_draw h6) ⟨Nat.le_of_ble_eq_true rfl, Nat.le_of_ble_eq_true rfl⟩ ⟨rfl, rfl⟩ ⟨Nat.zero_le _, Nat.zero_le _⟩ rfl rfl (Nat.le_of_ble_eq_true rfl) dX10_drawDay_80 (fun H locs zr7 w => ?_)
          refine lv_istore_n (lv' := [(3, .int r7), (0, .ref (ad 28)), (1, .ref (ad k1)), (2, .int x2)]) hx hb dX10_drawDay_83 rfl hl (by decide) rfl (fun ls hl => ?_)
          refine lv_aload_n hx hb dX10_drawDay_84 rfl (lv_at hl 1 rfl) ?_
          refine lv_aload_n hx hb dX10_drawDay_85 rfl (lv_at hl 2 rfl) ?_
          refine lv_iload_n hx hb dX10_drawDay_86 rfl (lv_at hl 0 rfl) ?_
          obtain ⟨r10, h9, hR⟩ := bd_e hR
          refine cVi (k := 28) (As := [.ref (ad k1), .int r7]) (rest := []) X hl.1 w okX10_pullRefusal obX10 rfl lmX10_120 (kX10_pullRefusal hk1 h9) ⟨Nat.le_of_ble_eq_true rfl, Nat.le_of_ble_eq_true rfl⟩ ⟨rfl, rfl⟩ ⟨Nat.zero_le _, Nat.zero_le _⟩ rfl rfl (Nat.le_of_ble_eq_true rfl) dX10_drawDay_87 (fun H locs zr10 w => ?_)
          refine lv_iconst (v := -1) hx hb dX10_drawDay_90 (by decide) ?_
          refine lv_icmp_ne (tgt := 100) hx hb dX10_drawDay_91 (by decide) (fun c11 => ?_) (fun c11 => ?_)
          · rw [if_neg c11] at hR
            exact J100 S8 hR _ _ _ w (lv_sub hl [1, 2] rfl)
          · rw [if_pos c11] at hR
            refine lv_aload_n hx hb dX10_drawDay_94 rfl (lv_at hl 2 rfl) ?_
            refine lv_iload_n hx hb dX10_drawDay_95 rfl (lv_at hl 0 rfl) ?_
            obtain ⟨S14, r13, h12, hR⟩ := b2_e hR
            refine cVi (k := k1) (As := [.int r7]) (rest := []) X hl.1 w okX8_takeOff (obX8 hk1) rfl lmX10_124 (kX8_takeOff hk1 h12) ⟨Nat.le_of_ble_eq_true rfl, Nat.le_of_ble_eq_true rfl⟩ ⟨rfl, rfl⟩ ⟨Nat.zero_le _, Nat.zero_le _⟩ rfl rfl (Nat.le_of_ble_eq_true rfl) dX10_drawDay_96 (fun H locs zr13 w => ?_)
            refine lv_pop hx hb dX10_drawDay_99 rfl ?_
            exact J100 S14 hR _ _ _ w (lv_sub hl [1, 2] rfl)
      · rw [if_neg c1] at hR
        refine lv_aload_n hx hb dX10_drawDay_7 rfl (lv_at hl 0 rfl) ?_
        refine lv_aload_n hx hb dX10_drawDay_8 rfl (lv_at hl 0 rfl) ?_
        refine gX10_mill X w lfX10_9 dX10_drawDay_9 ?_
        refine gX5_ends (Or.inl rfl) X w lfX10_106 dX10_drawDay_12 ?_
        obtain ⟨S17, r16, h15, hR⟩ := b2_e hR
        refine cVi (k := 28) (As := [.int (gi S 3 0)]) (rest := []) X hl.1 w okX10_draw obX10 rfl lmX10_109 (kX10_draw h15) ⟨Nat.le_of_ble_eq_true rfl, Nat.le_of_ble_eq_true rfl⟩ ⟨rfl, rfl⟩ ⟨Nat.zero_le _, Nat.zero_le _⟩ rfl rfl (Nat.le_of_ble_eq_true rfl) dX10_drawDay_15 (fun H locs zr16 w => ?_)
        refine lv_istore (lv' := [(4, .int r16), (0, .ref (ad 28)), (1, .ref (ad k1)), (2, .int x2), (3, .int x3)]) hx hb dX10_drawDay_18 hl (by decide) rfl (fun ls hl => ?_)
        refine lv_aload_n hx hb dX10_drawDay_20 rfl (lv_at hl 1 rfl) ?_
        refine lv_aload_n hx hb dX10_drawDay_21 rfl (lv_at hl 1 rfl) ?_
        refine gX10_mill X w lfX10_9 dX10_drawDay_22 ?_
        refine gX5_ends (Or.inl rfl) X w lfX10_106 dX10_drawDay_25 ?_
        obtain ⟨S20, r19, h18, hR⟩ := b2_e hR
        refine cVi (k := 28) (As := [.int (gi S17 3 0)]) (rest := []) X hl.1 w okX10_draw obX10 rfl lmX10_109 (kX10_draw h18) ⟨Nat.le_of_ble_eq_true rfl, Nat.le_of_ble_eq_true rfl⟩ ⟨rfl, rfl⟩ ⟨Nat.zero_le _, Nat.zero_le _⟩ rfl rfl (Nat.le_of_ble_eq_true rfl) dX10_drawDay_28 (fun H locs zr19 w => ?_)
        refine lv_istore (lv' := [(5, .int r19), (4, .int r16), (0, .ref (ad 28)), (1, .ref (ad k1)), (2, .int x2), (3, .int x3)]) hx hb dX10_drawDay_31 hl (by decide) rfl (fun ls hl => ?_)
        refine lv_aload_n hx hb dX10_drawDay_33 rfl (lv_at hl 2 rfl) ?_
        refine lv_aload_n hx hb dX10_drawDay_34 rfl (lv_at hl 3 rfl) ?_
        refine lv_iload hx hb dX10_drawDay_35 (lv_at hl 1 rfl) ?_
        refine lv_iload hx hb dX10_drawDay_37 (lv_at hl 0 rfl) ?_
        obtain ⟨r22, h21, hR⟩ := bd_e hR
        refine cVi (k := 28) (As := [.ref (ad k1), .int r16, .int r19]) (rest := []) X hl.1 w okX10_tryRefusal obX10 rfl lmX10_112 (kX10_tryRefusal hk1 h21) ⟨Nat.le_of_ble_eq_true rfl, Nat.le_of_ble_eq_true rfl⟩ ⟨rfl, rfl⟩ ⟨Nat.zero_le _, Nat.zero_le _⟩ rfl rfl (Nat.le_of_ble_eq_true rfl) dX10_drawDay_39 (fun H locs zr22 w => ?_)
        refine lv_iconst (v := -1) hx hb dX10_drawDay_42 (by decide) ?_
        refine lv_icmp_ne (tgt := 56) hx hb dX10_drawDay_43 (by decide) (fun c23 => ?_) (fun c23 => ?_)
        · rw [if_neg c23] at hR
          obtain ⟨v24, ev24, hR⟩ := lt_e hR
          refine lv_iinc (v := v24) (lv' := [(3, .int v24), (5, .int r19), (4, .int r16), (0, .ref (ad 28)), (1, .ref (ad k1)), (2, .int x2)]) hx hb dX10_drawDay_56 hl (k := 5) rfl (by rw [ev24]; rfl) (by decide) rfl (fun ls hl => ?_)
          refine lv_goto (tgt := 2) hx hb dX10_drawDay_59 (by decide) ?_
          exact ih x2 v24 S20 hR _ _ _ w (lv_sub hl [3, 4, 5, 0] rfl)
        · rw [if_pos c23] at hR
          refine lv_aload_n hx hb dX10_drawDay_46 rfl (lv_at hl 2 rfl) ?_
          refine lv_aload_n hx hb dX10_drawDay_47 rfl (lv_at hl 3 rfl) ?_
          refine lv_iload hx hb dX10_drawDay_48 (lv_at hl 1 rfl) ?_
          refine lv_iload hx hb dX10_drawDay_50 (lv_at hl 0 rfl) ?_
          obtain ⟨S27, r26, h25, hR⟩ := b2_e hR
          refine cVi (k := 28) (As := [.ref (ad k1), .int r16, .int r19]) (rest := []) X hl.1 w okX10_tryOn obX10 rfl lmX10_116 (kX10_tryOn hk1 h25) ⟨Nat.le_of_ble_eq_true rfl, Nat.le_of_ble_eq_true rfl⟩ ⟨rfl, rfl⟩ ⟨Nat.zero_le _, Nat.zero_le _⟩ rfl rfl (Nat.le_of_ble_eq_true rfl) dX10_drawDay_52 (fun H locs zr26 w => ?_)
          refine lv_pop hx hb dX10_drawDay_55 rfl ?_
          obtain ⟨v28, ev28, hR⟩ := lt_e hR
          refine lv_iinc (v := v28) (lv' := [(3, .int v28), (5, .int r19), (4, .int r16), (0, .ref (ad 28)), (1, .ref (ad k1)), (2, .int x2)]) hx hb dX10_drawDay_56 hl (k := 5) rfl (by rw [ev28]; rfl) (by decide) rfl (fun ls hl => ?_)
          refine lv_goto (tgt := 2) hx hb dX10_drawDay_59 (by decide) ?_
          exact ih x2 v28 S27 hR _ _ _ w (lv_sub hl [3, 4, 5, 0] rfl)
  have hl : lv_has ls 6 [(0, .ref (ad 28)), (1, .ref (ad k1)), (2, .int p2)] := hl
  unfold fX10_drawDay at hR
  refine lv_iconst (v := 0) hx hb dX10_drawDay_0 (by decide) ?_
  refine lv_istore_n (lv' := [(3, .int 0), (0, .ref (ad 28)), (1, .ref (ad k1)), (2, .int p2)]) hx hb dX10_drawDay_1 rfl hl (by decide) rfl (fun ls hl => ?_)
  exact L2 N p2 0 S hR _ _ _ w (lv_sub hl [1, 2, 3, 0] rfl)
/- LooseEnds.feed(IIIII)I -/
def fX11_feed (N : Nat) (S : SS) (p1 : Int32) (p2 : Int32) (p3 : Int32) (p4 : Int32) (p5 : Int32) : Option (SS × Int32) := bd (fX9_bytesIn N p1) fun r2 =>
  bd (fX9_bytesIn N p2) fun r4 =>
  bd (fX9_bytesIn N p3) fun r6 =>
  bd (fX9_bytesIn N p4) fun r8 =>
  bd (fX9_bytesIn N p5) fun r10 =>
  lt ((((r2 + r4) + r6) + r8) + r10) fun v11 =>
  if ((gi S 1 1) + v11) ≤ 240 then
  (bd (fX9_put N S p1) fun S14 =>
  bd (fX9_put N S14 p2) fun S16 =>
  bd (fX9_put N S16 p3) fun S18 =>
  bd (fX9_put N S18 p4) fun S20 =>
  bd (fX9_put N S20 p5) fun S22 =>
  some (S22, gi S22 1 1))
  else
  (some (S, (-1)))
set_option maxHeartbeats 4000000 in
set_option maxRecDepth 100000 in
theorem kX11_feed {l : Launch} {D : va_G} {dA : Nat → ClassId} {ad : Nat → Nat} {t1 t2 : Nat} {N : Nat} {S T : SS} {o : Nat → Int64} {p1 : Int32} {p2 : Int32} {p3 : Int32} {p4 : Int32} {p5 : Int32} {r : Int32} {S' : SS} (hR : fX11_feed N S p1 p2 p3 p4 p5 = some (S', r)) : KI l D dA ad t1 t2 yX11_feed cX11_feed 7 .int { frames := 1, cells := 0, slots := 0, locals := 23 } [.ref (ad 0), .int p1, .int p2, .int p3, .int p4, .int p5] S T o r S' T := by
  intro sz
  refine en_ (plainFor_of_name (by decide)) (Nat.le_of_ble_eq_true rfl) ?_
  intro p ev s m args below meth c QQ hQ hsz X hr hlk w ls hl
  have hx := X.1
  have hb := X.2.1
  have hl : lv_has ls 7 [(0, .ref (ad 0)), (1, .int p1), (2, .int p2), (3, .int p3), (4, .int p4), (5, .int p5)] := hl
  unfold fX11_feed at hR
  refine lv_iload_n hx hb dX11_feed_0 rfl (lv_at hl 1 rfl) ?_
  obtain ⟨r2, h1, hR⟩ := bd_e hR
  refine cSi (As := [.int p1]) (rest := []) X hl.1 w okX9_bytesIn lmX11_106 (kX9_bytesIn h1) ⟨Nat.le_of_ble_eq_true rfl, Nat.le_of_ble_eq_true rfl⟩ ⟨rfl, rfl⟩ ⟨Nat.zero_le _, Nat.zero_le _⟩ rfl rfl (Nat.le_of_ble_eq_true rfl) dX11_feed_1 (fun H locs zr2 w => ?_)
  refine lv_iload_n hx hb dX11_feed_4 rfl (lv_at hl 2 rfl) ?_
  obtain ⟨r4, h3, hR⟩ := bd_e hR
  refine cSi (As := [.int p2]) (rest := [.int r2]) X hl.1 w okX9_bytesIn lmX11_106 (kX9_bytesIn h3) ⟨Nat.le_of_ble_eq_true rfl, Nat.le_of_ble_eq_true rfl⟩ ⟨rfl, rfl⟩ ⟨Nat.zero_le _, Nat.zero_le _⟩ rfl rfl (Nat.le_of_ble_eq_true rfl) dX11_feed_5 (fun H locs zr4 w => ?_)
  refine lv_iadd hx hb dX11_feed_8 ?_
  refine lv_iload_n hx hb dX11_feed_9 rfl (lv_at hl 3 rfl) ?_
  obtain ⟨r6, h5, hR⟩ := bd_e hR
  refine cSi (As := [.int p3]) (rest := [.int (r2 + r4)]) X hl.1 w okX9_bytesIn lmX11_106 (kX9_bytesIn h5) ⟨Nat.le_of_ble_eq_true rfl, Nat.le_of_ble_eq_true rfl⟩ ⟨rfl, rfl⟩ ⟨Nat.zero_le _, Nat.zero_le _⟩ rfl rfl (Nat.le_of_ble_eq_true rfl) dX11_feed_10 (fun H locs zr6 w => ?_)
  refine lv_iadd hx hb dX11_feed_13 ?_
  refine lv_iload hx hb dX11_feed_14 (lv_at hl 4 rfl) ?_
  obtain ⟨r8, h7, hR⟩ := bd_e hR
  refine cSi (As := [.int p4]) (rest := [.int ((r2 + r4) + r6)]) X hl.1 w okX9_bytesIn lmX11_106 (kX9_bytesIn h7) ⟨Nat.le_of_ble_eq_true rfl, Nat.le_of_ble_eq_true rfl⟩ ⟨rfl, rfl⟩ ⟨Nat.zero_le _, Nat.zero_le _⟩ rfl rfl (Nat.le_of_ble_eq_true rfl) dX11_feed_16 (fun H locs zr8 w => ?_)
  refine lv_iadd hx hb dX11_feed_19 ?_
  refine lv_iload hx hb dX11_feed_20 (lv_at hl 5 rfl) ?_
  obtain ⟨r10, h9, hR⟩ := bd_e hR
  refine cSi (As := [.int p5]) (rest := [.int (((r2 + r4) + r6) + r8)]) X hl.1 w okX9_bytesIn lmX11_106 (kX9_bytesIn h9) ⟨Nat.le_of_ble_eq_true rfl, Nat.le_of_ble_eq_true rfl⟩ ⟨rfl, rfl⟩ ⟨Nat.zero_le _, Nat.zero_le _⟩ rfl rfl (Nat.le_of_ble_eq_true rfl) dX11_feed_22 (fun H locs zr10 w => ?_)
  refine lv_iadd hx hb dX11_feed_25 ?_
  obtain ⟨v11, ev11, hR⟩ := lt_e hR
  refine nm_i ev11 ?_
  refine lv_istore (lv' := [(6, .int v11), (0, .ref (ad 0)), (1, .int p1), (2, .int p2), (3, .int p3), (4, .int p4), (5, .int p5)]) hx hb dX11_feed_26 hl (by decide) rfl (fun ls hl => ?_)
  refine lv_aload_n hx hb dX11_feed_28 rfl (lv_at hl 1 rfl) ?_
  refine gX11_tape X w lfX11_10 dX11_feed_29 ?_
  refine gX9_length X w lfX11_110 dX11_feed_32 ?_
  refine lv_iload hx hb dX11_feed_35 (lv_at hl 0 rfl) ?_
  refine lv_iadd hx hb dX11_feed_37 ?_
  refine lv_sipush (v := 240) hx hb dX11_feed_38 (by decide) ?_
  refine lv_icmp_le (tgt := 46) hx hb dX11_feed_41 (by decide) (fun c12 => ?_) (fun c12 => ?_)
  · rw [if_pos c12] at hR
    refine lv_aload_n hx hb dX11_feed_46 rfl (lv_at hl 1 rfl) ?_
    refine gX11_tape X w lfX11_10 dX11_feed_47 ?_
    refine lv_iload_n hx hb dX11_feed_50 rfl (lv_at hl 2 rfl) ?_
    obtain ⟨S14, h13, hR⟩ := bd_e hR
    refine cVv (k := 1) (As := [.int p1]) (rest := []) X hl.1 w okX9_put obX9 rfl lmX11_113 (kX9_put h13) ⟨Nat.le_of_ble_eq_true rfl, Nat.le_of_ble_eq_true rfl⟩ ⟨rfl, rfl⟩ ⟨Nat.zero_le _, Nat.zero_le _⟩ rfl rfl (Nat.le_of_ble_eq_true rfl) dX11_feed_51 (fun H locs w => ?_)
    refine lv_aload_n hx hb dX11_feed_54 rfl (lv_at hl 1 rfl) ?_
    refine gX11_tape X w lfX11_10 dX11_feed_55 ?_
    refine lv_iload_n hx hb dX11_feed_58 rfl (lv_at hl 3 rfl) ?_
    obtain ⟨S16, h15, hR⟩ := bd_e hR
    refine cVv (k := 1) (As := [.int p2]) (rest := []) X hl.1 w okX9_put obX9 rfl lmX11_113 (kX9_put h15) ⟨Nat.le_of_ble_eq_true rfl, Nat.le_of_ble_eq_true rfl⟩ ⟨rfl, rfl⟩ ⟨Nat.zero_le _, Nat.zero_le _⟩ rfl rfl (Nat.le_of_ble_eq_true rfl) dX11_feed_59 (fun H locs w => ?_)
    refine lv_aload_n hx hb dX11_feed_62 rfl (lv_at hl 1 rfl) ?_
    refine gX11_tape X w lfX11_10 dX11_feed_63 ?_
    refine lv_iload_n hx hb dX11_feed_66 rfl (lv_at hl 4 rfl) ?_
    obtain ⟨S18, h17, hR⟩ := bd_e hR
    refine cVv (k := 1) (As := [.int p3]) (rest := []) X hl.1 w okX9_put obX9 rfl lmX11_113 (kX9_put h17) ⟨Nat.le_of_ble_eq_true rfl, Nat.le_of_ble_eq_true rfl⟩ ⟨rfl, rfl⟩ ⟨Nat.zero_le _, Nat.zero_le _⟩ rfl rfl (Nat.le_of_ble_eq_true rfl) dX11_feed_67 (fun H locs w => ?_)
    refine lv_aload_n hx hb dX11_feed_70 rfl (lv_at hl 1 rfl) ?_
    refine gX11_tape X w lfX11_10 dX11_feed_71 ?_
    refine lv_iload hx hb dX11_feed_74 (lv_at hl 5 rfl) ?_
    obtain ⟨S20, h19, hR⟩ := bd_e hR
    refine cVv (k := 1) (As := [.int p4]) (rest := []) X hl.1 w okX9_put obX9 rfl lmX11_113 (kX9_put h19) ⟨Nat.le_of_ble_eq_true rfl, Nat.le_of_ble_eq_true rfl⟩ ⟨rfl, rfl⟩ ⟨Nat.zero_le _, Nat.zero_le _⟩ rfl rfl (Nat.le_of_ble_eq_true rfl) dX11_feed_76 (fun H locs w => ?_)
    refine lv_aload_n hx hb dX11_feed_79 rfl (lv_at hl 1 rfl) ?_
    refine gX11_tape X w lfX11_10 dX11_feed_80 ?_
    refine lv_iload hx hb dX11_feed_83 (lv_at hl 6 rfl) ?_
    obtain ⟨S22, h21, hR⟩ := bd_e hR
    refine cVv (k := 1) (As := [.int p5]) (rest := []) X hl.1 w okX9_put obX9 rfl lmX11_113 (kX9_put h21) ⟨Nat.le_of_ble_eq_true rfl, Nat.le_of_ble_eq_true rfl⟩ ⟨rfl, rfl⟩ ⟨Nat.zero_le _, Nat.zero_le _⟩ rfl rfl (Nat.le_of_ble_eq_true rfl) dX11_feed_85 (fun H locs w => ?_)
    refine lv_aload_n hx hb dX11_feed_88 rfl (lv_at hl 1 rfl) ?_
    refine gX11_tape X w lfX11_10 dX11_feed_89 ?_
    refine gX9_length X w lfX11_110 dX11_feed_92 ?_
    rw [hQ]
    exact rt_i X hr hlk w hsz rfl (lf2 hR).1 rfl (lf2 hR).2 dX11_feed_95
  · rw [if_neg c12] at hR
    refine lv_iconst (v := -1) hx hb dX11_feed_44 (by decide) ?_
    rw [hQ]
    exact rt_i X hr hlk w hsz rfl (lf2 hR).1 rfl (lf2 hR).2 dX11_feed_45
/- LooseEnds.end(I)Z -/
def fX11_end (N : Nat) (S : SS) (p1 : Int32) : Option (SS × Int32) := if p1 < 0 then
  (some (S, 0))
  else
  (if p1 ≤ (gi S 1 1) then
  (lt (pj S 1 1 p1) fun S3 =>
  some (S3, 1))
  else
  (some (S, 0)))
set_option maxHeartbeats 4000000 in
set_option maxRecDepth 100000 in
theorem kX11_end {l : Launch} {D : va_G} {dA : Nat → ClassId} {ad : Nat → Nat} {t1 t2 : Nat} {N : Nat} {S T : SS} {o : Nat → Int64} {p1 : Int32} {r : Int32} {S' : SS} (hR : fX11_end N S p1 = some (S', r)) : KI l D dA ad t1 t2 yX11_end cX11_end 2 .boolean { frames := 0, cells := 0, slots := 0, locals := 0 } [.ref (ad 0), .int p1] S T o r S' T := by
  intro sz
  refine en_ (plainFor_of_name (by decide)) (Nat.le_of_ble_eq_true rfl) ?_
  intro p ev s m args below meth c QQ hQ hsz X hr hlk w ls hl
  have hx := X.1
  have hb := X.2.1
  have hl : lv_has ls 2 [(0, .ref (ad 0)), (1, .int p1)] := hl
  unfold fX11_end at hR
  refine lv_iload_n hx hb dX11_end_0 rfl (lv_at hl 1 rfl) ?_
  refine lv_if_lt (tgt := 15) hx hb dX11_end_1 (by decide) (fun c1 => ?_) (fun c1 => ?_)
  · rw [if_pos c1] at hR
    refine lv_iconst (v := 0) hx hb dX11_end_15 (by decide) ?_
    rw [hQ]
    exact rt_i X hr hlk w hsz rfl (lf2 hR).1 rfl (lf2 hR).2 dX11_end_16
  · rw [if_neg c1] at hR
    refine lv_iload_n hx hb dX11_end_4 rfl (lv_at hl 1 rfl) ?_
    refine lv_aload_n hx hb dX11_end_5 rfl (lv_at hl 0 rfl) ?_
    refine gX11_tape X w lfX11_10 dX11_end_6 ?_
    refine gX9_length X w lfX11_110 dX11_end_9 ?_
    refine lv_icmp_le (tgt := 17) hx hb dX11_end_12 (by decide) (fun c2 => ?_) (fun c2 => ?_)
    · rw [if_pos c2] at hR
      refine lv_aload_n hx hb dX11_end_17 rfl (lv_at hl 0 rfl) ?_
      refine gX11_tape X w lfX11_10 dX11_end_18 ?_
      refine lv_iload_n hx hb dX11_end_21 rfl (lv_at hl 1 rfl) ?_
      obtain ⟨S3, eS3, hR⟩ := lt_e hR
      refine pX9_length X w lfX11_110 dX11_end_22 (fun H locs w => ?_)
      rw [← eS3] at w
      refine lv_iconst (v := 1) hx hb dX11_end_25 (by decide) ?_
      rw [hQ]
      exact rt_i X hr hlk w hsz rfl (lf2 hR).1 rfl (lf2 hR).2 dX11_end_26
    · rw [if_neg c2] at hR
      refine lv_iconst (v := 0) hx hb dX11_end_15 (by decide) ?_
      rw [hQ]
      exact rt_i X hr hlk w hsz rfl (lf2 hR).1 rfl (lf2 hR).2 dX11_end_16
/- LooseEnds.fault(I)I -/
def fX11_fault (N : Nat) (S : SS) (p1 : Int32) : Option (SS × Int32) := if p1 = 0 then
  (b2 (fX6_read N S) fun S8 r7 =>
  some (S8, r7))
  else
  (if p1 = 1 then
  (b2 (fX3_read N S) fun S5 r4 =>
  some (S5, r4))
  else
  (some (S, (-2))))
set_option maxHeartbeats 4000000 in
set_option maxRecDepth 100000 in
theorem kX11_fault {l : Launch} {D : va_G} {dA : Nat → ClassId} {ad : Nat → Nat} {t1 t2 : Nat} {N : Nat} {S T : SS} {o : Nat → Int64} {p1 : Int32} {r : Int32} {S' : SS} (hR : fX11_fault N S p1 = some (S', r)) : KI l D dA ad t1 t2 yX11_fault cX11_fault 2 .int { frames := 493, cells := 0, slots := 0, locals := 10875 } [.ref (ad 0), .int p1] S T o r S' T := by
  intro sz
  refine en_ (plainFor_of_name (by decide)) (Nat.le_of_ble_eq_true rfl) ?_
  intro p ev s m args below meth c QQ hQ hsz X hr hlk w ls hl
  have hx := X.1
  have hb := X.2.1
  have hl : lv_has ls 2 [(0, .ref (ad 0)), (1, .int p1)] := hl
  unfold fX11_fault at hR
  refine lv_iload_n hx hb dX11_fault_0 rfl (lv_at hl 1 rfl) ?_
  refine lv_if_ne (tgt := 12) hx hb dX11_fault_1 (by decide) (fun c1 => ?_) (fun c1 => ?_)
  · rw [if_neg c1] at hR
    refine lv_iload_n hx hb dX11_fault_12 rfl (lv_at hl 1 rfl) ?_
    refine lv_iconst (v := 1) hx hb dX11_fault_13 (by decide) ?_
    refine lv_icmp_ne (tgt := 25) hx hb dX11_fault_14 (by decide) (fun c2 => ?_) (fun c2 => ?_)
    · rw [if_neg c2] at hR
      refine lv_bipush (v := -2) hx hb dX11_fault_25 (by decide) ?_
      rw [hQ]
      exact rt_i X hr hlk w hsz rfl (lf2 hR).1 rfl (lf2 hR).2 dX11_fault_27
    · rw [if_pos c2] at hR
      refine lv_aload_n hx hb dX11_fault_17 rfl (lv_at hl 0 rfl) ?_
      refine gX11_lawReader X w lfX11_35 dX11_fault_18 ?_
      obtain ⟨S5, r4, h3, hR⟩ := b2_e hR
      refine cVi (k := 12) (As := []) (rest := []) X hl.1 w okX3_read obX3 rfl lmX11_121 (kX3_read h3) ⟨Nat.le_of_ble_eq_true rfl, Nat.le_of_ble_eq_true rfl⟩ ⟨rfl, rfl⟩ ⟨Nat.zero_le _, Nat.zero_le _⟩ rfl rfl (Nat.le_of_ble_eq_true rfl) dX11_fault_21 (fun H locs zr4 w => ?_)
      rw [hQ]
      exact rt_i X hr hlk w hsz rfl (lf2 hR).1 rfl (lf2 hR).2 dX11_fault_24
  · rw [if_pos c1] at hR
    refine lv_aload_n hx hb dX11_fault_4 rfl (lv_at hl 0 rfl) ?_
    refine gX11_millReader X w lfX11_28 dX11_fault_5 ?_
    obtain ⟨S8, r7, h6, hR⟩ := b2_e hR
    refine cVi (k := 7) (As := []) (rest := []) X hl.1 w okX6_read obX6 rfl lmX11_117 (kX6_read h6) ⟨Nat.le_of_ble_eq_true rfl, Nat.le_of_ble_eq_true rfl⟩ ⟨rfl, rfl⟩ ⟨Nat.zero_le _, Nat.zero_le _⟩ rfl rfl (Nat.le_of_ble_eq_true rfl) dX11_fault_8 (fun H locs zr7 w => ?_)
    rw [hQ]
    exact rt_i X hr hlk w hsz rfl (lf2 hR).1 rfl (lf2 hR).2 dX11_fault_11
/- LooseEnds.takeMill()I -/
def fX11_takeMill (N : Nat) (S : SS) : Option (SS × Int32) := b2 (fX6_read N S) fun S3 r2 =>
  if r2 = (-1) then
  (bd (fX5_copyFrom N S3 3 8) fun S6 =>
  bd (fX8_begin N S6 18 3) fun S8 =>
  bd (fX4_forget N S8) fun S10 =>
  lt (pj S10 40 5 0) fun S11 =>
  lt (pj S11 1 1 0) fun S12 =>
  some (S12, gi S12 3 0))
  else
  (some (S3, (-1)))
set_option maxHeartbeats 4000000 in
set_option maxRecDepth 100000 in
theorem kX11_takeMill {l : Launch} {D : va_G} {dA : Nat → ClassId} {ad : Nat → Nat} {t1 t2 : Nat} {N : Nat} {S T : SS} {o : Nat → Int64} {r : Int32} {S' : SS} (hR : fX11_takeMill N S = some (S', r)) : KI l D dA ad t1 t2 yX11_takeMill cX11_takeMill 1 .int { frames := 5, cells := 0, slots := 0, locals := 115 } [.ref (ad 0)] S T o r S' T := by
  intro sz
  refine en_ (plainFor_of_name (by decide)) (Nat.le_of_ble_eq_true rfl) ?_
  intro p ev s m args below meth c QQ hQ hsz X hr hlk w ls hl
  have hx := X.1
  have hb := X.2.1
  have hl : lv_has ls 1 [(0, .ref (ad 0))] := hl
  unfold fX11_takeMill at hR
  refine lv_aload_n hx hb dX11_takeMill_0 rfl (lv_at hl 0 rfl) ?_
  refine gX11_millReader X w lfX11_28 dX11_takeMill_1 ?_
  obtain ⟨S3, r2, h1, hR⟩ := b2_e hR
  refine cVi (k := 7) (As := []) (rest := []) X hl.1 w okX6_read obX6 rfl lmX11_117 (kX6_read h1) ⟨Nat.le_of_ble_eq_true rfl, Nat.le_of_ble_eq_true rfl⟩ ⟨rfl, rfl⟩ ⟨Nat.zero_le _, Nat.zero_le _⟩ rfl rfl (Nat.le_of_ble_eq_true rfl) dX11_takeMill_4 (fun H locs zr2 w => ?_)
  refine lv_iconst (v := -1) hx hb dX11_takeMill_7 (by decide) ?_
  refine lv_icmp_eq (tgt := 13) hx hb dX11_takeMill_8 (by decide) (fun c4 => ?_) (fun c4 => ?_)
  · rw [if_pos c4] at hR
    refine lv_aload_n hx hb dX11_takeMill_13 rfl (lv_at hl 0 rfl) ?_
    refine gX11_mill X w lfX11_19 dX11_takeMill_14 ?_
    refine lv_aload_n hx hb dX11_takeMill_17 rfl (lv_at hl 0 rfl) ?_
    refine gX11_millReader X w lfX11_28 dX11_takeMill_18 ?_
    refine gX6_draft X w lfX11_128 dX11_takeMill_21 ?_
    obtain ⟨S6, h5, hR⟩ := bd_e hR
    refine cVv (k := 3) (As := [.ref (ad 8)]) (rest := []) X hl.1 w okX5_copyFrom (obX5 (Or.inl rfl)) rfl lmX11_131 (kX5_copyFrom (Or.inl rfl) (Or.inr rfl) h5) ⟨Nat.le_of_ble_eq_true rfl, Nat.le_of_ble_eq_true rfl⟩ ⟨rfl, rfl⟩ ⟨Nat.zero_le _, Nat.zero_le _⟩ rfl rfl (Nat.le_of_ble_eq_true rfl) dX11_takeMill_24 (fun H locs w => ?_)
    refine lv_aload_n hx hb dX11_takeMill_27 rfl (lv_at hl 0 rfl) ?_
    refine gX11_now X w lfX11_51 dX11_takeMill_28 ?_
    refine lv_aload_n hx hb dX11_takeMill_31 rfl (lv_at hl 0 rfl) ?_
    refine gX11_mill X w lfX11_19 dX11_takeMill_32 ?_
    obtain ⟨S8, h7, hR⟩ := bd_e hR
    refine cVv (k := 18) (As := [.ref (ad 3)]) (rest := []) X hl.1 w okX8_begin (obX8 (Or.inl rfl)) rfl lmX11_134 (kX8_begin (Or.inl rfl) (Or.inl rfl) h7) ⟨Nat.le_of_ble_eq_true rfl, Nat.le_of_ble_eq_true rfl⟩ ⟨rfl, rfl⟩ ⟨Nat.zero_le _, Nat.zero_le _⟩ rfl rfl (Nat.le_of_ble_eq_true rfl) dX11_takeMill_35 (fun H locs w => ?_)
    refine lv_aload_n hx hb dX11_takeMill_38 rfl (lv_at hl 0 rfl) ?_
    refine gX11_memory X w lfX11_58 dX11_takeMill_39 ?_
    obtain ⟨S10, h9, hR⟩ := bd_e hR
    refine cVv (k := 23) (As := []) (rest := []) X hl.1 w okX4_forget obX4 rfl lmX11_137 (kX4_forget h9) ⟨Nat.le_of_ble_eq_true rfl, Nat.le_of_ble_eq_true rfl⟩ ⟨rfl, rfl⟩ ⟨Nat.zero_le _, Nat.zero_le _⟩ rfl rfl (Nat.le_of_ble_eq_true rfl) dX11_takeMill_42 (fun H locs w => ?_)
    refine lv_aload_n hx hb dX11_takeMill_45 rfl (lv_at hl 0 rfl) ?_
    refine gX11_sightings X w lfX11_85 dX11_takeMill_46 ?_
    refine lv_iconst (v := 0) hx hb dX11_takeMill_49 (by decide) ?_
    obtain ⟨S11, eS11, hR⟩ := lt_e hR
    refine pX7_size X w lfX11_140 dX11_takeMill_50 (fun H locs w => ?_)
    rw [← eS11] at w
    refine lv_aload_n hx hb dX11_takeMill_53 rfl (lv_at hl 0 rfl) ?_
    refine gX11_tape X w lfX11_10 dX11_takeMill_54 ?_
    refine lv_iconst (v := 0) hx hb dX11_takeMill_57 (by decide) ?_
    obtain ⟨S12, eS12, hR⟩ := lt_e hR
    refine pX9_length X w lfX11_110 dX11_takeMill_58 (fun H locs w => ?_)
    rw [← eS12] at w
    refine lv_aload_n hx hb dX11_takeMill_61 rfl (lv_at hl 0 rfl) ?_
    refine gX11_mill X w lfX11_19 dX11_takeMill_62 ?_
    refine gX5_ends (Or.inl rfl) X w lfX11_143 dX11_takeMill_65 ?_
    rw [hQ]
    exact rt_i X hr hlk w hsz rfl (lf2 hR).1 rfl (lf2 hR).2 dX11_takeMill_68
  · rw [if_neg c4] at hR
    refine lv_iconst (v := -1) hx hb dX11_takeMill_11 (by decide) ?_
    rw [hQ]
    exact rt_i X hr hlk w hsz rfl (lf2 hR).1 rfl (lf2 hR).2 dX11_takeMill_12
/- LooseEnds.rule(I)I -/
def fX11_rule (N : Nat) (S : SS) (p1 : Int32) : Option (Int32) := bd (fX5_isThere N S 3) fun r2 =>
  if r2 = 0 then
  (some (-1))
  else
  (if p1 = 0 then
  (some (gi S 3 1))
  else
  (if p1 = 1 then
  (some (gi S 3 2))
  else
  (if p1 = 2 then
  (some (gi S 3 3))
  else
  (if p1 = 3 then
  (some (gi S 18 8))
  else
  (some (-1))))))
set_option maxHeartbeats 4000000 in
set_option maxRecDepth 100000 in
theorem kX11_rule {l : Launch} {D : va_G} {dA : Nat → ClassId} {ad : Nat → Nat} {t1 t2 : Nat} {N : Nat} {S T : SS} {o : Nat → Int64} {p1 : Int32} {r : Int32} (hR : fX11_rule N S p1 = some r) : KI l D dA ad t1 t2 yX11_rule cX11_rule 2 .int { frames := 1, cells := 0, slots := 0, locals := 20 } [.ref (ad 0), .int p1] S T o r S T := by
  intro sz
  refine en_ (plainFor_of_name (by decide)) (Nat.le_of_ble_eq_true rfl) ?_
  intro p ev s m args below meth c QQ hQ hsz X hr hlk w ls hl
  have hx := X.1
  have hb := X.2.1
  have hl : lv_has ls 2 [(0, .ref (ad 0)), (1, .int p1)] := hl
  unfold fX11_rule at hR
  refine lv_aload_n hx hb dX11_rule_0 rfl (lv_at hl 0 rfl) ?_
  refine gX11_mill X w lfX11_19 dX11_rule_1 ?_
  obtain ⟨r2, h1, hR⟩ := bd_e hR
  refine cVi (k := 3) (As := []) (rest := []) X hl.1 w okX5_isThere (obX5 (Or.inl rfl)) rfl lmX11_155 (kX5_isThere (Or.inl rfl) h1) ⟨Nat.le_of_ble_eq_true rfl, Nat.le_of_ble_eq_true rfl⟩ ⟨rfl, rfl⟩ ⟨Nat.zero_le _, Nat.zero_le _⟩ rfl rfl (Nat.le_of_ble_eq_true rfl) dX11_rule_4 (fun H locs zr2 w => ?_)
  refine lv_if_ne (tgt := 12) hx hb dX11_rule_7 (by decide) (fun c3 => ?_) (fun c3 => ?_)
  · rw [if_neg c3] at hR
    refine lv_iload_n hx hb dX11_rule_12 rfl (lv_at hl 1 rfl) ?_
    by_cases c4_0 : p1 = 0
    · rw [if_pos c4_0] at hR
      refine lv_tableIn (tgt := 44) hx hb dX11_rule_13 (by rw [c4_0]; decide) (by rw [c4_0]; decide) (by rw [c4_0]; rfl) (by decide) ?_
      refine lv_aload_n hx hb dX11_rule_44 rfl (lv_at hl 0 rfl) ?_
      refine gX11_mill X w lfX11_19 dX11_rule_45 ?_
      refine gX5_pass (Or.inl rfl) X w lfX11_159 dX11_rule_48 ?_
      rw [hQ]
      exact rt_i X hr hlk w hsz rfl rfl rfl (lf1 hR) dX11_rule_51
    · rw [if_neg c4_0] at hR
      by_cases c4_1 : p1 = 1
      · rw [if_pos c4_1] at hR
        refine lv_tableIn (tgt := 52) hx hb dX11_rule_13 (by rw [c4_1]; decide) (by rw [c4_1]; decide) (by rw [c4_1]; rfl) (by decide) ?_
        refine lv_aload_n hx hb dX11_rule_52 rfl (lv_at hl 0 rfl) ?_
        refine gX11_mill X w lfX11_19 dX11_rule_53 ?_
        refine gX5_fade (Or.inl rfl) X w lfX11_162 dX11_rule_56 ?_
        rw [hQ]
        exact rt_i X hr hlk w hsz rfl rfl rfl (lf1 hR) dX11_rule_59
      · rw [if_neg c4_1] at hR
        by_cases c4_2 : p1 = 2
        · rw [if_pos c4_2] at hR
          refine lv_tableIn (tgt := 60) hx hb dX11_rule_13 (by rw [c4_2]; decide) (by rw [c4_2]; decide) (by rw [c4_2]; rfl) (by decide) ?_
          refine lv_aload_n hx hb dX11_rule_60 rfl (lv_at hl 0 rfl) ?_
          refine gX11_mill X w lfX11_19 dX11_rule_61 ?_
          refine gX5_girls (Or.inl rfl) X w lfX11_165 dX11_rule_64 ?_
          rw [hQ]
          exact rt_i X hr hlk w hsz rfl rfl rfl (lf1 hR) dX11_rule_67
        · rw [if_neg c4_2] at hR
          by_cases c4_3 : p1 = 3
          · rw [if_pos c4_3] at hR
            refine lv_tableIn (tgt := 68) hx hb dX11_rule_13 (by rw [c4_3]; decide) (by rw [c4_3]; decide) (by rw [c4_3]; rfl) (by decide) ?_
            refine lv_aload_n hx hb dX11_rule_68 rfl (lv_at hl 0 rfl) ?_
            refine gX11_now X w lfX11_51 dX11_rule_69 ?_
            refine gX8_coins (Or.inl rfl) X w lfX11_168 dX11_rule_72 ?_
            rw [hQ]
            exact rt_i X hr hlk w hsz rfl rfl rfl (lf1 hR) dX11_rule_75
          · rw [if_neg c4_3] at hR
            have hh0 := ne_int (n := 0) (by decide) c4_0
            have hh1 := ne_int (n := 1) (by decide) c4_1
            have hh2 := ne_int (n := 2) (by decide) c4_2
            have hh3 := ne_int (n := 3) (by decide) c4_3
            refine lv_tableOut (tgt := 76) hx hb dX11_rule_13 (by omega) (by decide) ?_
            refine lv_iconst (v := -1) hx hb dX11_rule_76 (by decide) ?_
            rw [hQ]
            exact rt_i X hr hlk w hsz rfl rfl rfl (lf1 hR) dX11_rule_77
  · rw [if_pos c3] at hR
    refine lv_iconst (v := -1) hx hb dX11_rule_10 (by decide) ?_
    rw [hQ]
    exact rt_i X hr hlk w hsz rfl rfl rfl (lf1 hR) dX11_rule_11
/- LooseEnds.law(I)Z -/
def fX11_law (N : Nat) (S : SS) (p1 : Int32) : Option (SS × Int32) := if p1 < (-1) then
  (some (S, 0))
  else
  (if p1 < (gi S 14 4) then
  (lt (pj S 14 5 p1) fun S3 =>
  some (S3, 1))
  else
  (some (S, 0)))
set_option maxHeartbeats 4000000 in
set_option maxRecDepth 100000 in
theorem kX11_law {l : Launch} {D : va_G} {dA : Nat → ClassId} {ad : Nat → Nat} {t1 t2 : Nat} {N : Nat} {S T : SS} {o : Nat → Int64} {p1 : Int32} {r : Int32} {S' : SS} (hR : fX11_law N S p1 = some (S', r)) : KI l D dA ad t1 t2 yX11_law cX11_law 2 .boolean { frames := 0, cells := 0, slots := 0, locals := 0 } [.ref (ad 0), .int p1] S T o r S' T := by
  intro sz
  refine en_ (plainFor_of_name (by decide)) (Nat.le_of_ble_eq_true rfl) ?_
  intro p ev s m args below meth c QQ hQ hsz X hr hlk w ls hl
  have hx := X.1
  have hb := X.2.1
  have hl : lv_has ls 2 [(0, .ref (ad 0)), (1, .int p1)] := hl
  unfold fX11_law at hR
  refine lv_iload_n hx hb dX11_law_0 rfl (lv_at hl 1 rfl) ?_
  refine lv_iconst (v := -1) hx hb dX11_law_1 (by decide) ?_
  refine lv_icmp_lt (tgt := 16) hx hb dX11_law_2 (by decide) (fun c1 => ?_) (fun c1 => ?_)
  · rw [if_pos c1] at hR
    refine lv_iconst (v := 0) hx hb dX11_law_16 (by decide) ?_
    rw [hQ]
    exact rt_i X hr hlk w hsz rfl (lf2 hR).1 rfl (lf2 hR).2 dX11_law_17
  · rw [if_neg c1] at hR
    refine lv_iload_n hx hb dX11_law_5 rfl (lv_at hl 1 rfl) ?_
    refine lv_aload_n hx hb dX11_law_6 rfl (lv_at hl 0 rfl) ?_
    refine gX11_judge X w lfX11_44 dX11_law_7 ?_
    refine gX2_size X w lfX11_146 dX11_law_10 ?_
    refine lv_icmp_lt (tgt := 18) hx hb dX11_law_13 (by decide) (fun c2 => ?_) (fun c2 => ?_)
    · rw [if_pos c2] at hR
      refine lv_aload_n hx hb dX11_law_18 rfl (lv_at hl 0 rfl) ?_
      refine gX11_judge X w lfX11_44 dX11_law_19 ?_
      refine lv_iload_n hx hb dX11_law_22 rfl (lv_at hl 1 rfl) ?_
      obtain ⟨S3, eS3, hR⟩ := lt_e hR
      refine pX2_holding X w lfX11_200 dX11_law_23 (fun H locs w => ?_)
      rw [← eS3] at w
      refine lv_iconst (v := 1) hx hb dX11_law_26 (by decide) ?_
      rw [hQ]
      exact rt_i X hr hlk w hsz rfl (lf2 hR).1 rfl (lf2 hR).2 dX11_law_27
    · rw [if_neg c2] at hR
      refine lv_iconst (v := 0) hx hb dX11_law_16 (by decide) ?_
      rw [hQ]
      exact rt_i X hr hlk w hsz rfl (lf2 hR).1 rfl (lf2 hR).2 dX11_law_17
/- LooseEnds.refuse(I)I -/
def fX11_refuse (N : Nat) (S : SS) (p1 : Int32) : Option (SS × Int32) := if p1 < 0 then
  (some (S, (-1)))
  else
  (if 5 ≤ p1 then
  (some (S, (-1)))
  else
  (ck (inb p1 5) <|
  ck (inb p1 5) <|
  lt (pa S 47 p1 ((ga S 47 p1) + 1)) fun S5 =>
  some (S5, (-1))))
set_option maxHeartbeats 4000000 in
set_option maxRecDepth 100000 in
theorem kX11_refuse {l : Launch} {D : va_G} {dA : Nat → ClassId} {ad : Nat → Nat} {t1 t2 : Nat} {N : Nat} {S T : SS} {o : Nat → Int64} {p1 : Int32} {r : Int32} {S' : SS} (hR : fX11_refuse N S p1 = some (S', r)) : KI l D dA ad t1 t2 yX11_refuse cX11_refuse 2 .int { frames := 0, cells := 0, slots := 0, locals := 0 } [.ref (ad 0), .int p1] S T o r S' T := by
  intro sz
  refine en_ (plainFor_of_name (by decide)) (Nat.le_of_ble_eq_true rfl) ?_
  intro p ev s m args below meth c QQ hQ hsz X hr hlk w ls hl
  have hx := X.1
  have hb := X.2.1
  have hl : lv_has ls 2 [(0, .ref (ad 0)), (1, .int p1)] := hl
  unfold fX11_refuse at hR
  refine lv_iload_n hx hb dX11_refuse_0 rfl (lv_at hl 1 rfl) ?_
  refine lv_if_lt (tgt := 19) hx hb dX11_refuse_1 (by decide) (fun c1 => ?_) (fun c1 => ?_)
  · rw [if_pos c1] at hR
    refine lv_iconst (v := -1) hx hb dX11_refuse_19 (by decide) ?_
    rw [hQ]
    exact rt_i X hr hlk w hsz rfl (lf2 hR).1 rfl (lf2 hR).2 dX11_refuse_20
  · rw [if_neg c1] at hR
    refine lv_iload_n hx hb dX11_refuse_4 rfl (lv_at hl 1 rfl) ?_
    refine lv_iconst (v := 5) hx hb dX11_refuse_5 (by decide) ?_
    refine lv_icmp_ge (tgt := 19) hx hb dX11_refuse_6 (by decide) (fun c2 => ?_) (fun c2 => ?_)
    · rw [if_pos c2] at hR
      refine lv_iconst (v := -1) hx hb dX11_refuse_19 (by decide) ?_
      rw [hQ]
      exact rt_i X hr hlk w hsz rfl (lf2 hR).1 rfl (lf2 hR).2 dX11_refuse_20
    · rw [if_neg c2] at hR
      refine lv_aload_n hx hb dX11_refuse_9 rfl (lv_at hl 0 rfl) ?_
      refine gX11_refused X w lfX11_98 dX11_refuse_10 ?_
      refine lv_iload_n hx hb dX11_refuse_13 rfl (lv_at hl 1 rfl) ?_
      refine lv_dup2_11 hx hb dX11_refuse_14 rfl rfl ?_
      obtain ⟨g3, hR⟩ := ck_e hR
      refine ialS (n := 5) rfl (by decide) X w rfl g3 dX11_refuse_15 ?_
      refine lv_iconst (v := 1) hx hb dX11_refuse_16 (by decide) ?_
      refine lv_iadd hx hb dX11_refuse_17 ?_
      obtain ⟨g4, hR⟩ := ck_e hR
      obtain ⟨S5, eS5, hR⟩ := lt_e hR
      refine iasS (n := 5) rfl (by decide) X w rfl g4 dX11_refuse_18 (fun H locs w => ?_)
      rw [← eS5] at w
      refine lv_iconst (v := -1) hx hb dX11_refuse_19 (by decide) ?_
      rw [hQ]
      exact rt_i X hr hlk w hsz rfl (lf2 hR).1 rfl (lf2 hR).2 dX11_refuse_20
/- LooseEnds.attempt(II)I -/
def fX11_attempt (N : Nat) (S : SS) (p1 : Int32) (p2 : Int32) : Option (SS × Int32) := bd (fX10_tryRefusal N S 18 p1 p2) fun r2 =>
  if r2 = (-1) then
  (bd (fX4_keep N S 18) fun S5 =>
  b2 (fX10_tryOn N S5 18 p1 p2) fun S8 r7 =>
  if r7 = 0 then
  (some (S8, 0))
  else
  (some (S8, 1)))
  else
  (b2 (fX11_refuse N S r2) fun S12 r11 =>
  some (S12, r11))
set_option maxHeartbeats 4000000 in
set_option maxRecDepth 100000 in
theorem kX11_attempt {l : Launch} {D : va_G} {dA : Nat → ClassId} {ad : Nat → Nat} {t1 t2 : Nat} {N : Nat} {S T : SS} {o : Nat → Int64} {p1 : Int32} {p2 : Int32} {r : Int32} {S' : SS} (hR : fX11_attempt N S p1 p2 = some (S', r)) : KI l D dA ad t1 t2 yX11_attempt cX11_attempt 4 .int { frames := 5, cells := 0, slots := 0, locals := 125 } [.ref (ad 0), .int p1, .int p2] S T o r S' T := by
  intro sz
  refine en_ (plainFor_of_name (by decide)) (Nat.le_of_ble_eq_true rfl) ?_
  intro p ev s m args below meth c QQ hQ hsz X hr hlk w ls hl
  have hx := X.1
  have hb := X.2.1
  have hl : lv_has ls 4 [(0, .ref (ad 0)), (1, .int p1), (2, .int p2)] := hl
  unfold fX11_attempt at hR
  refine lv_aload_n hx hb dX11_attempt_0 rfl (lv_at hl 0 rfl) ?_
  refine gX11_works X w lfX11_67 dX11_attempt_1 ?_
  refine lv_aload_n hx hb dX11_attempt_4 rfl (lv_at hl 0 rfl) ?_
  refine gX11_now X w lfX11_51 dX11_attempt_5 ?_
  refine lv_iload_n hx hb dX11_attempt_8 rfl (lv_at hl 1 rfl) ?_
  refine lv_iload_n hx hb dX11_attempt_9 rfl (lv_at hl 2 rfl) ?_
  obtain ⟨r2, h1, hR⟩ := bd_e hR
  refine cVi (k := 28) (As := [.ref (ad 18), .int p1, .int p2]) (rest := []) X hl.1 w okX10_tryRefusal obX10 rfl lmX11_203 (kX10_tryRefusal (Or.inl rfl) h1) ⟨Nat.le_of_ble_eq_true rfl, Nat.le_of_ble_eq_true rfl⟩ ⟨rfl, rfl⟩ ⟨Nat.zero_le _, Nat.zero_le _⟩ rfl rfl (Nat.le_of_ble_eq_true rfl) dX11_attempt_10 (fun H locs zr2 w => ?_)
  refine lv_istore_n (lv' := [(3, .int r2), (0, .ref (ad 0)), (1, .int p1), (2, .int p2)]) hx hb dX11_attempt_13 rfl hl (by decide) rfl (fun ls hl => ?_)
  refine lv_iload_n hx hb dX11_attempt_14 rfl (lv_at hl 0 rfl) ?_
  refine lv_iconst (v := -1) hx hb dX11_attempt_15 (by decide) ?_
  refine lv_icmp_eq (tgt := 25) hx hb dX11_attempt_16 (by decide) (fun c3 => ?_) (fun c3 => ?_)
  · rw [if_pos c3] at hR
    refine lv_aload_n hx hb dX11_attempt_25 rfl (lv_at hl 1 rfl) ?_
    refine gX11_memory X w lfX11_58 dX11_attempt_26 ?_
    refine lv_aload_n hx hb dX11_attempt_29 rfl (lv_at hl 1 rfl) ?_
    refine gX11_now X w lfX11_51 dX11_attempt_30 ?_
    obtain ⟨S5, h4, hR⟩ := bd_e hR
    refine cVv (k := 23) (As := [.ref (ad 18)]) (rest := []) X hl.1 w okX4_keep obX4 rfl lmX11_210 (kX4_keep (Or.inl rfl) h4) ⟨Nat.le_of_ble_eq_true rfl, Nat.le_of_ble_eq_true rfl⟩ ⟨rfl, rfl⟩ ⟨Nat.zero_le _, Nat.zero_le _⟩ rfl rfl (Nat.le_of_ble_eq_true rfl) dX11_attempt_33 (fun H locs w => ?_)
    refine lv_aload_n hx hb dX11_attempt_36 rfl (lv_at hl 1 rfl) ?_
    refine gX11_works X w lfX11_67 dX11_attempt_37 ?_
    refine lv_aload_n hx hb dX11_attempt_40 rfl (lv_at hl 1 rfl) ?_
    refine gX11_now X w lfX11_51 dX11_attempt_41 ?_
    refine lv_iload_n hx hb dX11_attempt_44 rfl (lv_at hl 2 rfl) ?_
    refine lv_iload_n hx hb dX11_attempt_45 rfl (lv_at hl 3 rfl) ?_
    obtain ⟨S8, r7, h6, hR⟩ := b2_e hR
    refine cVi (k := 28) (As := [.ref (ad 18), .int p1, .int p2]) (rest := []) X hl.1 w okX10_tryOn obX10 rfl lmX11_214 (kX10_tryOn (Or.inl rfl) h6) ⟨Nat.le_of_ble_eq_true rfl, Nat.le_of_ble_eq_true rfl⟩ ⟨rfl, rfl⟩ ⟨Nat.zero_le _, Nat.zero_le _⟩ rfl rfl (Nat.le_of_ble_eq_true rfl) dX11_attempt_46 (fun H locs zr7 w => ?_)
    refine lv_if_eq (tgt := 56) hx hb dX11_attempt_49 (by decide) (fun c9 => ?_) (fun c9 => ?_)
    · rw [if_pos c9] at hR
      refine lv_iconst (v := 0) hx hb dX11_attempt_56 (by decide) ?_
      rw [hQ]
      exact rt_i X hr hlk w hsz rfl (lf2 hR).1 rfl (lf2 hR).2 dX11_attempt_57
    · rw [if_neg c9] at hR
      refine lv_iconst (v := 1) hx hb dX11_attempt_52 (by decide) ?_
      refine lv_goto (tgt := 57) hx hb dX11_attempt_53 (by decide) ?_
      rw [hQ]
      exact rt_i X hr hlk w hsz rfl (lf2 hR).1 rfl (lf2 hR).2 dX11_attempt_57
  · rw [if_neg c3] at hR
    refine lv_aload_n hx hb dX11_attempt_19 rfl (lv_at hl 1 rfl) ?_
    refine lv_iload_n hx hb dX11_attempt_20 rfl (lv_at hl 0 rfl) ?_
    obtain ⟨S12, r11, h10, hR⟩ := b2_e hR
    refine cVi (k := 0) (As := [.int r2]) (rest := []) X hl.1 w okX11_refuse obX11 rfl lmX11_207 (kX11_refuse h10) ⟨Nat.le_of_ble_eq_true rfl, Nat.le_of_ble_eq_true rfl⟩ ⟨rfl, rfl⟩ ⟨Nat.zero_le _, Nat.zero_le _⟩ rfl rfl (Nat.le_of_ble_eq_true rfl) dX11_attempt_21 (fun H locs zr11 w => ?_)
    rw [hQ]
    exact rt_i X hr hlk w hsz rfl (lf2 hR).1 rfl (lf2 hR).2 dX11_attempt_24
/- LooseEnds.pull(I)I -/
def fX11_pull (N : Nat) (S : SS) (p1 : Int32) : Option (SS × Int32) := bd (fX10_pullRefusal N S 18 p1) fun r2 =>
  if r2 = (-1) then
  (bd (fX4_keep N S 18) fun S5 =>
  b2 (fX8_takeOff N S5 18 p1) fun S8 r7 =>
  some (S8, r7))
  else
  (b2 (fX11_refuse N S r2) fun S11 r10 =>
  some (S11, r10))
set_option maxHeartbeats 4000000 in
set_option maxRecDepth 100000 in
theorem kX11_pull {l : Launch} {D : va_G} {dA : Nat → ClassId} {ad : Nat → Nat} {t1 t2 : Nat} {N : Nat} {S T : SS} {o : Nat → Int64} {p1 : Int32} {r : Int32} {S' : SS} (hR : fX11_pull N S p1 = some (S', r)) : KI l D dA ad t1 t2 yX11_pull cX11_pull 3 .int { frames := 3, cells := 0, slots := 0, locals := 84 } [.ref (ad 0), .int p1] S T o r S' T := by
  intro sz
  refine en_ (plainFor_of_name (by decide)) (Nat.le_of_ble_eq_true rfl) ?_
  intro p ev s m args below meth c QQ hQ hsz X hr hlk w ls hl
  have hx := X.1
  have hb := X.2.1
  have hl : lv_has ls 3 [(0, .ref (ad 0)), (1, .int p1)] := hl
  unfold fX11_pull at hR
  refine lv_aload_n hx hb dX11_pull_0 rfl (lv_at hl 0 rfl) ?_
  refine gX11_works X w lfX11_67 dX11_pull_1 ?_
  refine lv_aload_n hx hb dX11_pull_4 rfl (lv_at hl 0 rfl) ?_
  refine gX11_now X w lfX11_51 dX11_pull_5 ?_
  refine lv_iload_n hx hb dX11_pull_8 rfl (lv_at hl 1 rfl) ?_
  obtain ⟨r2, h1, hR⟩ := bd_e hR
  refine cVi (k := 28) (As := [.ref (ad 18), .int p1]) (rest := []) X hl.1 w okX10_pullRefusal obX10 rfl lmX11_218 (kX10_pullRefusal (Or.inl rfl) h1) ⟨Nat.le_of_ble_eq_true rfl, Nat.le_of_ble_eq_true rfl⟩ ⟨rfl, rfl⟩ ⟨Nat.zero_le _, Nat.zero_le _⟩ rfl rfl (Nat.le_of_ble_eq_true rfl) dX11_pull_9 (fun H locs zr2 w => ?_)
  refine lv_istore_n (lv' := [(2, .int r2), (0, .ref (ad 0)), (1, .int p1)]) hx hb dX11_pull_12 rfl hl (by decide) rfl (fun ls hl => ?_)
  refine lv_iload_n hx hb dX11_pull_13 rfl (lv_at hl 0 rfl) ?_
  refine lv_iconst (v := -1) hx hb dX11_pull_14 (by decide) ?_
  refine lv_icmp_eq (tgt := 24) hx hb dX11_pull_15 (by decide) (fun c3 => ?_) (fun c3 => ?_)
  · rw [if_pos c3] at hR
    refine lv_aload_n hx hb dX11_pull_24 rfl (lv_at hl 1 rfl) ?_
    refine gX11_memory X w lfX11_58 dX11_pull_25 ?_
    refine lv_aload_n hx hb dX11_pull_28 rfl (lv_at hl 1 rfl) ?_
    refine gX11_now X w lfX11_51 dX11_pull_29 ?_
    obtain ⟨S5, h4, hR⟩ := bd_e hR
    refine cVv (k := 23) (As := [.ref (ad 18)]) (rest := []) X hl.1 w okX4_keep obX4 rfl lmX11_210 (kX4_keep (Or.inl rfl) h4) ⟨Nat.le_of_ble_eq_true rfl, Nat.le_of_ble_eq_true rfl⟩ ⟨rfl, rfl⟩ ⟨Nat.zero_le _, Nat.zero_le _⟩ rfl rfl (Nat.le_of_ble_eq_true rfl) dX11_pull_32 (fun H locs w => ?_)
    refine lv_aload_n hx hb dX11_pull_35 rfl (lv_at hl 1 rfl) ?_
    refine gX11_now X w lfX11_51 dX11_pull_36 ?_
    refine lv_iload_n hx hb dX11_pull_39 rfl (lv_at hl 2 rfl) ?_
    obtain ⟨S8, r7, h6, hR⟩ := b2_e hR
    refine cVi (k := 18) (As := [.int p1]) (rest := []) X hl.1 w okX8_takeOff (obX8 (Or.inl rfl)) rfl lmX11_222 (kX8_takeOff (Or.inl rfl) h6) ⟨Nat.le_of_ble_eq_true rfl, Nat.le_of_ble_eq_true rfl⟩ ⟨rfl, rfl⟩ ⟨Nat.zero_le _, Nat.zero_le _⟩ rfl rfl (Nat.le_of_ble_eq_true rfl) dX11_pull_40 (fun H locs zr7 w => ?_)
    rw [hQ]
    exact rt_i X hr hlk w hsz rfl (lf2 hR).1 rfl (lf2 hR).2 dX11_pull_43
  · rw [if_neg c3] at hR
    refine lv_aload_n hx hb dX11_pull_18 rfl (lv_at hl 1 rfl) ?_
    refine lv_iload_n hx hb dX11_pull_19 rfl (lv_at hl 0 rfl) ?_
    obtain ⟨S11, r10, h9, hR⟩ := b2_e hR
    refine cVi (k := 0) (As := [.int r2]) (rest := []) X hl.1 w okX11_refuse obX11 rfl lmX11_207 (kX11_refuse h9) ⟨Nat.le_of_ble_eq_true rfl, Nat.le_of_ble_eq_true rfl⟩ ⟨rfl, rfl⟩ ⟨Nat.zero_le _, Nat.zero_le _⟩ rfl rfl (Nat.le_of_ble_eq_true rfl) dX11_pull_20 (fun H locs zr10 w => ?_)
    rw [hQ]
    exact rt_i X hr hlk w hsz rfl (lf2 hR).1 rfl (lf2 hR).2 dX11_pull_23
/- LooseEnds.sellRefusal(I)I -/
def fX11_sellRefusal (N : Nat) (S : SS) (p1 : Int32) : Option (Int32) := bd (fX5_has N S 3 p1) fun r2 =>
  if r2 = 0 then
  (some 0)
  else
  (ck (inb p1 7) <|
  if (ga S 22 p1) = (-1) then
  (bd (fX8_isSold N S 18 p1) fun r7 =>
  if r7 = 0 then
  (ck (inb p1 7) <|
  if (ga S 21 p1) = (-1) then
  (some 3)
  else
  (some (-1)))
  else
  (some 2))
  else
  (some 1))
set_option maxHeartbeats 4000000 in
set_option maxRecDepth 100000 in
theorem kX11_sellRefusal {l : Launch} {D : va_G} {dA : Nat → ClassId} {ad : Nat → Nat} {t1 t2 : Nat} {N : Nat} {S T : SS} {o : Nat → Int64} {p1 : Int32} {r : Int32} (hR : fX11_sellRefusal N S p1 = some r) : KI l D dA ad t1 t2 yX11_sellRefusal cX11_sellRefusal 2 .int { frames := 1, cells := 0, slots := 0, locals := 21 } [.ref (ad 0), .int p1] S T o r S T := by
  intro sz
  refine en_ (plainFor_of_name (by decide)) (Nat.le_of_ble_eq_true rfl) ?_
  intro p ev s m args below meth c QQ hQ hsz X hr hlk w ls hl
  have hx := X.1
  have hb := X.2.1
  have hl : lv_has ls 2 [(0, .ref (ad 0)), (1, .int p1)] := hl
  unfold fX11_sellRefusal at hR
  refine lv_aload_n hx hb dX11_sellRefusal_0 rfl (lv_at hl 0 rfl) ?_
  refine gX11_mill X w lfX11_19 dX11_sellRefusal_1 ?_
  refine lv_iload_n hx hb dX11_sellRefusal_4 rfl (lv_at hl 1 rfl) ?_
  obtain ⟨r2, h1, hR⟩ := bd_e hR
  refine cVi (k := 3) (As := [.int p1]) (rest := []) X hl.1 w okX5_has (obX5 (Or.inl rfl)) rfl lmX11_171 (kX5_has (Or.inl rfl) h1) ⟨Nat.le_of_ble_eq_true rfl, Nat.le_of_ble_eq_true rfl⟩ ⟨rfl, rfl⟩ ⟨Nat.zero_le _, Nat.zero_le _⟩ rfl rfl (Nat.le_of_ble_eq_true rfl) dX11_sellRefusal_5 (fun H locs zr2 w => ?_)
  refine lv_if_ne (tgt := 13) hx hb dX11_sellRefusal_8 (by decide) (fun c3 => ?_) (fun c3 => ?_)
  · rw [if_neg c3] at hR
    refine lv_aload_n hx hb dX11_sellRefusal_13 rfl (lv_at hl 0 rfl) ?_
    refine gX11_now X w lfX11_51 dX11_sellRefusal_14 ?_
    refine gX8_ahead (Or.inl rfl) X w lfX11_197 dX11_sellRefusal_17 ?_
    refine lv_iload_n hx hb dX11_sellRefusal_20 rfl (lv_at hl 1 rfl) ?_
    obtain ⟨g4, hR⟩ := ck_e hR
    refine ialS (n := 7) rfl (by decide) X w rfl g4 dX11_sellRefusal_21 ?_
    refine lv_iconst (v := -1) hx hb dX11_sellRefusal_22 (by decide) ?_
    refine lv_icmp_eq (tgt := 28) hx hb dX11_sellRefusal_23 (by decide) (fun c5 => ?_) (fun c5 => ?_)
    · rw [if_pos c5] at hR
      refine lv_aload_n hx hb dX11_sellRefusal_28 rfl (lv_at hl 0 rfl) ?_
      refine gX11_now X w lfX11_51 dX11_sellRefusal_29 ?_
      refine lv_iload_n hx hb dX11_sellRefusal_32 rfl (lv_at hl 1 rfl) ?_
      obtain ⟨r7, h6, hR⟩ := bd_e hR
      refine cVi (k := 18) (As := [.int p1]) (rest := []) X hl.1 w okX8_isSold (obX8 (Or.inl rfl)) rfl lmX11_191 (kX8_isSold (Or.inl rfl) h6) ⟨Nat.le_of_ble_eq_true rfl, Nat.le_of_ble_eq_true rfl⟩ ⟨rfl, rfl⟩ ⟨Nat.zero_le _, Nat.zero_le _⟩ rfl rfl (Nat.le_of_ble_eq_true rfl) dX11_sellRefusal_33 (fun H locs zr7 w => ?_)
      refine lv_if_eq (tgt := 41) hx hb dX11_sellRefusal_36 (by decide) (fun c8 => ?_) (fun c8 => ?_)
      · rw [if_pos c8] at hR
        refine lv_aload_n hx hb dX11_sellRefusal_41 rfl (lv_at hl 0 rfl) ?_
        refine gX11_now X w lfX11_51 dX11_sellRefusal_42 ?_
        refine gX8_behind (Or.inl rfl) X w lfX11_194 dX11_sellRefusal_45 ?_
        refine lv_iload_n hx hb dX11_sellRefusal_48 rfl (lv_at hl 1 rfl) ?_
        obtain ⟨g9, hR⟩ := ck_e hR
        refine ialS (n := 7) rfl (by decide) X w rfl g9 dX11_sellRefusal_49 ?_
        refine lv_iconst (v := -1) hx hb dX11_sellRefusal_50 (by decide) ?_
        refine lv_icmp_ne (tgt := 58) hx hb dX11_sellRefusal_51 (by decide) (fun c10 => ?_) (fun c10 => ?_)
        · rw [if_neg c10] at hR
          refine lv_iconst (v := -1) hx hb dX11_sellRefusal_58 (by decide) ?_
          rw [hQ]
          exact rt_i X hr hlk w hsz rfl rfl rfl (lf1 hR) dX11_sellRefusal_59
        · rw [if_pos c10] at hR
          refine lv_iconst (v := 3) hx hb dX11_sellRefusal_54 (by decide) ?_
          refine lv_goto (tgt := 59) hx hb dX11_sellRefusal_55 (by decide) ?_
          rw [hQ]
          exact rt_i X hr hlk w hsz rfl rfl rfl (lf1 hR) dX11_sellRefusal_59
      · rw [if_neg c8] at hR
        refine lv_iconst (v := 2) hx hb dX11_sellRefusal_39 (by decide) ?_
        rw [hQ]
        exact rt_i X hr hlk w hsz rfl rfl rfl (lf1 hR) dX11_sellRefusal_40
    · rw [if_neg c5] at hR
      refine lv_iconst (v := 1) hx hb dX11_sellRefusal_26 (by decide) ?_
      rw [hQ]
      exact rt_i X hr hlk w hsz rfl rfl rfl (lf1 hR) dX11_sellRefusal_27
  · rw [if_pos c3] at hR
    refine lv_iconst (v := 0) hx hb dX11_sellRefusal_11 (by decide) ?_
    rw [hQ]
    exact rt_i X hr hlk w hsz rfl rfl rfl (lf1 hR) dX11_sellRefusal_12
/- LooseEnds.sell(I)I -/
def fX11_sell (N : Nat) (S : SS) (p1 : Int32) : Option (SS × Int32) := bd (fX11_sellRefusal N S p1) fun r2 =>
  if r2 = (-1) then
  (bd (fX4_keep N S 18) fun S5 =>
  bd (fX8_taleOf N S5 18 p1) fun r7 =>
  bd (fX8_priceOf N S5 18 r7) fun r9 =>
  lt (pj S5 18 8 (mn 9999 ((gi S5 18 8) + r9))) fun S10 =>
  lt (pj S10 18 5 ((gi S10 18 5) ||| r7)) fun S11 =>
  some (S11, gi S11 18 8))
  else
  (b2 (fX11_refuse N S r2) fun S14 r13 =>
  some (S14, r13))
set_option maxHeartbeats 4000000 in
set_option maxRecDepth 100000 in
theorem kX11_sell {l : Launch} {D : va_G} {dA : Nat → ClassId} {ad : Nat → Nat} {t1 t2 : Nat} {N : Nat} {S T : SS} {o : Nat → Int64} {p1 : Int32} {r : Int32} {S' : SS} (hR : fX11_sell N S p1 = some (S', r)) : KI l D dA ad t1 t2 yX11_sell cX11_sell 4 .int { frames := 3, cells := 0, slots := 0, locals := 84 } [.ref (ad 0), .int p1] S T o r S' T := by
  intro sz
  refine en_ (plainFor_of_name (by decide)) (Nat.le_of_ble_eq_true rfl) ?_
  intro p ev s m args below meth c QQ hQ hsz X hr hlk w ls hl
  have hx := X.1
  have hb := X.2.1
  have hl : lv_has ls 4 [(0, .ref (ad 0)), (1, .int p1)] := hl
  unfold fX11_sell at hR
  refine lv_aload_n hx hb dX11_sell_0 rfl (lv_at hl 0 rfl) ?_
  refine lv_iload_n hx hb dX11_sell_1 rfl (lv_at hl 1 rfl) ?_
  obtain ⟨r2, h1, hR⟩ := bd_e hR
  refine cVi (k := 0) (As := [.int p1]) (rest := []) X hl.1 w okX11_sellRefusal obX11 rfl lmX11_225 (kX11_sellRefusal h1) ⟨Nat.le_of_ble_eq_true rfl, Nat.le_of_ble_eq_true rfl⟩ ⟨rfl, rfl⟩ ⟨Nat.zero_le _, Nat.zero_le _⟩ rfl rfl (Nat.le_of_ble_eq_true rfl) dX11_sell_2 (fun H locs zr2 w => ?_)
  refine lv_istore_n (lv' := [(2, .int r2), (0, .ref (ad 0)), (1, .int p1)]) hx hb dX11_sell_5 rfl hl (by decide) rfl (fun ls hl => ?_)
  refine lv_iload_n hx hb dX11_sell_6 rfl (lv_at hl 0 rfl) ?_
  refine lv_iconst (v := -1) hx hb dX11_sell_7 (by decide) ?_
  refine lv_icmp_eq (tgt := 17) hx hb dX11_sell_8 (by decide) (fun c3 => ?_) (fun c3 => ?_)
  · rw [if_pos c3] at hR
    refine lv_aload_n hx hb dX11_sell_17 rfl (lv_at hl 1 rfl) ?_
    refine gX11_memory X w lfX11_58 dX11_sell_18 ?_
    refine lv_aload_n hx hb dX11_sell_21 rfl (lv_at hl 1 rfl) ?_
    refine gX11_now X w lfX11_51 dX11_sell_22 ?_
    obtain ⟨S5, h4, hR⟩ := bd_e hR
    refine cVv (k := 23) (As := [.ref (ad 18)]) (rest := []) X hl.1 w okX4_keep obX4 rfl lmX11_210 (kX4_keep (Or.inl rfl) h4) ⟨Nat.le_of_ble_eq_true rfl, Nat.le_of_ble_eq_true rfl⟩ ⟨rfl, rfl⟩ ⟨Nat.zero_le _, Nat.zero_le _⟩ rfl rfl (Nat.le_of_ble_eq_true rfl) dX11_sell_25 (fun H locs w => ?_)
    refine lv_aload_n hx hb dX11_sell_28 rfl (lv_at hl 1 rfl) ?_
    refine gX11_now X w lfX11_51 dX11_sell_29 ?_
    refine lv_iload_n hx hb dX11_sell_32 rfl (lv_at hl 2 rfl) ?_
    obtain ⟨r7, h6, hR⟩ := bd_e hR
    refine cVi (k := 18) (As := [.int p1]) (rest := []) X hl.1 w okX8_taleOf (obX8 (Or.inl rfl)) rfl lmX11_228 (kX8_taleOf (Or.inl rfl) h6) ⟨Nat.le_of_ble_eq_true rfl, Nat.le_of_ble_eq_true rfl⟩ ⟨rfl, rfl⟩ ⟨Nat.zero_le _, Nat.zero_le _⟩ rfl rfl (Nat.le_of_ble_eq_true rfl) dX11_sell_33 (fun H locs zr7 w => ?_)
    refine lv_istore_n (lv' := [(3, .int r7), (2, .int r2), (0, .ref (ad 0)), (1, .int p1)]) hx hb dX11_sell_36 rfl hl (by decide) rfl (fun ls hl => ?_)
    refine lv_aload_n hx hb dX11_sell_37 rfl (lv_at hl 2 rfl) ?_
    refine gX11_now X w lfX11_51 dX11_sell_38 ?_
    refine lv_sipush (v := 9999) hx hb dX11_sell_41 (by decide) ?_
    refine lv_aload_n hx hb dX11_sell_44 rfl (lv_at hl 2 rfl) ?_
    refine gX11_now X w lfX11_51 dX11_sell_45 ?_
    refine gX8_coins (Or.inl rfl) X w lfX11_168 dX11_sell_48 ?_
    refine lv_aload_n hx hb dX11_sell_51 rfl (lv_at hl 2 rfl) ?_
    refine gX11_now X w lfX11_51 dX11_sell_52 ?_
    refine lv_iload_n hx hb dX11_sell_55 rfl (lv_at hl 0 rfl) ?_
    obtain ⟨r9, h8, hR⟩ := bd_e hR
    refine cVi (k := 18) (As := [.int r7]) (rest := [.int (gi S5 18 8), .int 9999, .ref (ad 18)]) X hl.1 w okX8_priceOf (obX8 (Or.inl rfl)) rfl lmX11_231 (kX8_priceOf (Or.inl rfl) h8) ⟨Nat.le_of_ble_eq_true rfl, Nat.le_of_ble_eq_true rfl⟩ ⟨rfl, rfl⟩ ⟨Nat.zero_le _, Nat.zero_le _⟩ rfl rfl (Nat.le_of_ble_eq_true rfl) dX11_sell_56 (fun H locs zr9 w => ?_)
    refine lv_iadd hx hb dX11_sell_59 ?_
    refine mnI X hl.1 lmX11_234 ⟨Nat.le_of_ble_eq_true rfl, Nat.le_of_ble_eq_true rfl⟩ ⟨Nat.zero_le _, Nat.zero_le _⟩ dX11_sell_60 ?_
    obtain ⟨S10, eS10, hR⟩ := lt_e hR
    refine pX8_coins (Or.inl rfl) X w lfX11_168 dX11_sell_63 (fun H locs w => ?_)
    rw [← eS10] at w
    refine lv_aload_n hx hb dX11_sell_66 rfl (lv_at hl 2 rfl) ?_
    refine gX11_now X w lfX11_51 dX11_sell_67 ?_
    refine lv_dup hx hb dX11_sell_70 rfl ?_
    refine gX8_sold (Or.inl rfl) X w lfX11_240 dX11_sell_71 ?_
    refine lv_iload_n hx hb dX11_sell_74 rfl (lv_at hl 0 rfl) ?_
    refine lv_ior hx hb dX11_sell_75 ?_
    obtain ⟨S11, eS11, hR⟩ := lt_e hR
    refine pX8_sold (Or.inl rfl) X w lfX11_240 dX11_sell_76 (fun H locs w => ?_)
    rw [← eS11] at w
    refine lv_aload_n hx hb dX11_sell_79 rfl (lv_at hl 2 rfl) ?_
    refine gX11_now X w lfX11_51 dX11_sell_80 ?_
    refine gX8_coins (Or.inl rfl) X w lfX11_168 dX11_sell_83 ?_
    rw [hQ]
    exact rt_i X hr hlk w hsz rfl (lf2 hR).1 rfl (lf2 hR).2 dX11_sell_86
  · rw [if_neg c3] at hR
    refine lv_aload_n hx hb dX11_sell_11 rfl (lv_at hl 1 rfl) ?_
    refine lv_iload_n hx hb dX11_sell_12 rfl (lv_at hl 0 rfl) ?_
    obtain ⟨S14, r13, h12, hR⟩ := b2_e hR
    refine cVi (k := 0) (As := [.int r2]) (rest := []) X hl.1 w okX11_refuse obX11 rfl lmX11_207 (kX11_refuse h12) ⟨Nat.le_of_ble_eq_true rfl, Nat.le_of_ble_eq_true rfl⟩ ⟨rfl, rfl⟩ ⟨Nat.zero_le _, Nat.zero_le _⟩ rfl rfl (Nat.le_of_ble_eq_true rfl) dX11_sell_13 (fun H locs zr13 w => ?_)
    rw [hQ]
    exact rt_i X hr hlk w hsz rfl (lf2 hR).1 rfl (lf2 hR).2 dX11_sell_16
/- LooseEnds.dyeRefusal(II)I -/
def fX11_dyeRefusal (N : Nat) (S : SS) (p1 : Int32) (p2 : Int32) : Option (Int32) := bd (fX5_has N S 3 p1) fun r2 =>
  if r2 = 0 then
  (some 0)
  else
  (if p2 < 0 then
  (some 1)
  else
  (if p2 ≤ 20 then
  (bd (fX8_isLoose N S 18 p1) fun r7 =>
  if r7 = 0 then
  (some 2)
  else
  (ck (inb p1 7) <|
  if (ga S 19 p1) = p2 then
  (some 2)
  else
  (if 2 ≤ (gi S 18 8) then
  (some (-1))
  else
  (some 3))))
  else
  (some 1)))
set_option maxHeartbeats 4000000 in
set_option maxRecDepth 100000 in
theorem kX11_dyeRefusal {l : Launch} {D : va_G} {dA : Nat → ClassId} {ad : Nat → Nat} {t1 t2 : Nat} {N : Nat} {S T : SS} {o : Nat → Int64} {p1 : Int32} {p2 : Int32} {r : Int32} (hR : fX11_dyeRefusal N S p1 p2 = some r) : KI l D dA ad t1 t2 yX11_dyeRefusal cX11_dyeRefusal 3 .int { frames := 2, cells := 0, slots := 0, locals := 42 } [.ref (ad 0), .int p1, .int p2] S T o r S T := by
  intro sz
  refine en_ (plainFor_of_name (by decide)) (Nat.le_of_ble_eq_true rfl) ?_
  intro p ev s m args below meth c QQ hQ hsz X hr hlk w ls hl
  have hx := X.1
  have hb := X.2.1
  have hl : lv_has ls 3 [(0, .ref (ad 0)), (1, .int p1), (2, .int p2)] := hl
  unfold fX11_dyeRefusal at hR
  refine lv_aload_n hx hb dX11_dyeRefusal_0 rfl (lv_at hl 0 rfl) ?_
  refine gX11_mill X w lfX11_19 dX11_dyeRefusal_1 ?_
  refine lv_iload_n hx hb dX11_dyeRefusal_4 rfl (lv_at hl 1 rfl) ?_
  obtain ⟨r2, h1, hR⟩ := bd_e hR
  refine cVi (k := 3) (As := [.int p1]) (rest := []) X hl.1 w okX5_has (obX5 (Or.inl rfl)) rfl lmX11_171 (kX5_has (Or.inl rfl) h1) ⟨Nat.le_of_ble_eq_true rfl, Nat.le_of_ble_eq_true rfl⟩ ⟨rfl, rfl⟩ ⟨Nat.zero_le _, Nat.zero_le _⟩ rfl rfl (Nat.le_of_ble_eq_true rfl) dX11_dyeRefusal_5 (fun H locs zr2 w => ?_)
  refine lv_if_ne (tgt := 13) hx hb dX11_dyeRefusal_8 (by decide) (fun c3 => ?_) (fun c3 => ?_)
  · rw [if_neg c3] at hR
    refine lv_iload_n hx hb dX11_dyeRefusal_13 rfl (lv_at hl 2 rfl) ?_
    refine lv_if_lt (tgt := 23) hx hb dX11_dyeRefusal_14 (by decide) (fun c4 => ?_) (fun c4 => ?_)
    · rw [if_pos c4] at hR
      refine lv_iconst (v := 1) hx hb dX11_dyeRefusal_23 (by decide) ?_
      rw [hQ]
      exact rt_i X hr hlk w hsz rfl rfl rfl (lf1 hR) dX11_dyeRefusal_24
    · rw [if_neg c4] at hR
      refine lv_iload_n hx hb dX11_dyeRefusal_17 rfl (lv_at hl 2 rfl) ?_
      refine lv_bipush (v := 20) hx hb dX11_dyeRefusal_18 (by decide) ?_
      refine lv_icmp_le (tgt := 25) hx hb dX11_dyeRefusal_20 (by decide) (fun c5 => ?_) (fun c5 => ?_)
      · rw [if_pos c5] at hR
        refine lv_aload_n hx hb dX11_dyeRefusal_25 rfl (lv_at hl 0 rfl) ?_
        refine gX11_now X w lfX11_51 dX11_dyeRefusal_26 ?_
        refine lv_iload_n hx hb dX11_dyeRefusal_29 rfl (lv_at hl 1 rfl) ?_
        obtain ⟨r7, h6, hR⟩ := bd_e hR
        refine cVi (k := 18) (As := [.int p1]) (rest := []) X hl.1 w okX8_isLoose (obX8 (Or.inl rfl)) rfl lmX11_246 (kX8_isLoose (Or.inl rfl) h6) ⟨Nat.le_of_ble_eq_true rfl, Nat.le_of_ble_eq_true rfl⟩ ⟨rfl, rfl⟩ ⟨Nat.zero_le _, Nat.zero_le _⟩ rfl rfl (Nat.le_of_ble_eq_true rfl) dX11_dyeRefusal_30 (fun H locs zr7 w => ?_)
        refine lv_if_eq (tgt := 49) hx hb dX11_dyeRefusal_33 (by decide) (fun c8 => ?_) (fun c8 => ?_)
        · rw [if_pos c8] at hR
          refine lv_iconst (v := 2) hx hb dX11_dyeRefusal_49 (by decide) ?_
          rw [hQ]
          exact rt_i X hr hlk w hsz rfl rfl rfl (lf1 hR) dX11_dyeRefusal_50
        · rw [if_neg c8] at hR
          refine lv_aload_n hx hb dX11_dyeRefusal_36 rfl (lv_at hl 0 rfl) ?_
          refine gX11_now X w lfX11_51 dX11_dyeRefusal_37 ?_
          refine gX8_colours (Or.inl rfl) X w lfX11_182 dX11_dyeRefusal_40 ?_
          refine lv_iload_n hx hb dX11_dyeRefusal_43 rfl (lv_at hl 1 rfl) ?_
          obtain ⟨g9, hR⟩ := ck_e hR
          refine ialS (n := 7) rfl (by decide) X w rfl g9 dX11_dyeRefusal_44 ?_
          refine lv_iload_n hx hb dX11_dyeRefusal_45 rfl (lv_at hl 2 rfl) ?_
          refine lv_icmp_ne (tgt := 51) hx hb dX11_dyeRefusal_46 (by decide) (fun c10 => ?_) (fun c10 => ?_)
          · rw [if_neg c10] at hR
            refine lv_aload_n hx hb dX11_dyeRefusal_51 rfl (lv_at hl 0 rfl) ?_
            refine gX11_now X w lfX11_51 dX11_dyeRefusal_52 ?_
            refine gX8_coins (Or.inl rfl) X w lfX11_168 dX11_dyeRefusal_55 ?_
            refine lv_iconst (v := 2) hx hb dX11_dyeRefusal_58 (by decide) ?_
            refine lv_icmp_ge (tgt := 66) hx hb dX11_dyeRefusal_59 (by decide) (fun c11 => ?_) (fun c11 => ?_)
            · rw [if_pos c11] at hR
              refine lv_iconst (v := -1) hx hb dX11_dyeRefusal_66 (by decide) ?_
              rw [hQ]
              exact rt_i X hr hlk w hsz rfl rfl rfl (lf1 hR) dX11_dyeRefusal_67
            · rw [if_neg c11] at hR
              refine lv_iconst (v := 3) hx hb dX11_dyeRefusal_62 (by decide) ?_
              refine lv_goto (tgt := 67) hx hb dX11_dyeRefusal_63 (by decide) ?_
              rw [hQ]
              exact rt_i X hr hlk w hsz rfl rfl rfl (lf1 hR) dX11_dyeRefusal_67
          · rw [if_pos c10] at hR
            refine lv_iconst (v := 2) hx hb dX11_dyeRefusal_49 (by decide) ?_
            rw [hQ]
            exact rt_i X hr hlk w hsz rfl rfl rfl (lf1 hR) dX11_dyeRefusal_50
      · rw [if_neg c5] at hR
        refine lv_iconst (v := 1) hx hb dX11_dyeRefusal_23 (by decide) ?_
        rw [hQ]
        exact rt_i X hr hlk w hsz rfl rfl rfl (lf1 hR) dX11_dyeRefusal_24
  · rw [if_pos c3] at hR
    refine lv_iconst (v := 0) hx hb dX11_dyeRefusal_11 (by decide) ?_
    rw [hQ]
    exact rt_i X hr hlk w hsz rfl rfl rfl (lf1 hR) dX11_dyeRefusal_12
/- LooseEnds.dye(II)I -/
def fX11_dye (N : Nat) (S : SS) (p1 : Int32) (p2 : Int32) : Option (SS × Int32) := bd (fX11_dyeRefusal N S p1 p2) fun r2 =>
  if r2 = (-1) then
  (bd (fX4_keep N S 18) fun S5 =>
  ck (inb p1 7) <|
  lt (ga S5 19 p1) fun v7 =>
  ck (inb p1 7) <|
  lt (pa S5 19 p1 p2) fun S9 =>
  lt (pj S9 18 8 ((gi S9 18 8) - 2)) fun S10 =>
  some (S10, v7))
  else
  (b2 (fX11_refuse N S r2) fun S13 r12 =>
  some (S13, r12))
set_option maxHeartbeats 4000000 in
set_option maxRecDepth 100000 in
theorem kX11_dye {l : Launch} {D : va_G} {dA : Nat → ClassId} {ad : Nat → Nat} {t1 t2 : Nat} {N : Nat} {S T : SS} {o : Nat → Int64} {p1 : Int32} {p2 : Int32} {r : Int32} {S' : SS} (hR : fX11_dye N S p1 p2 = some (S', r)) : KI l D dA ad t1 t2 yX11_dye cX11_dye 5 .int { frames := 3, cells := 0, slots := 0, locals := 84 } [.ref (ad 0), .int p1, .int p2] S T o r S' T := by
  intro sz
  refine en_ (plainFor_of_name (by decide)) (Nat.le_of_ble_eq_true rfl) ?_
  intro p ev s m args below meth c QQ hQ hsz X hr hlk w ls hl
  have hx := X.1
  have hb := X.2.1
  have hl : lv_has ls 5 [(0, .ref (ad 0)), (1, .int p1), (2, .int p2)] := hl
  unfold fX11_dye at hR
  refine lv_aload_n hx hb dX11_dye_0 rfl (lv_at hl 0 rfl) ?_
  refine lv_iload_n hx hb dX11_dye_1 rfl (lv_at hl 1 rfl) ?_
  refine lv_iload_n hx hb dX11_dye_2 rfl (lv_at hl 2 rfl) ?_
  obtain ⟨r2, h1, hR⟩ := bd_e hR
  refine cVi (k := 0) (As := [.int p1, .int p2]) (rest := []) X hl.1 w okX11_dyeRefusal obX11 rfl lmX11_243 (kX11_dyeRefusal h1) ⟨Nat.le_of_ble_eq_true rfl, Nat.le_of_ble_eq_true rfl⟩ ⟨rfl, rfl⟩ ⟨Nat.zero_le _, Nat.zero_le _⟩ rfl rfl (Nat.le_of_ble_eq_true rfl) dX11_dye_3 (fun H locs zr2 w => ?_)
  refine lv_istore_n (lv' := [(3, .int r2), (0, .ref (ad 0)), (1, .int p1), (2, .int p2)]) hx hb dX11_dye_6 rfl hl (by decide) rfl (fun ls hl => ?_)
  refine lv_iload_n hx hb dX11_dye_7 rfl (lv_at hl 0 rfl) ?_
  refine lv_iconst (v := -1) hx hb dX11_dye_8 (by decide) ?_
  refine lv_icmp_eq (tgt := 18) hx hb dX11_dye_9 (by decide) (fun c3 => ?_) (fun c3 => ?_)
  · rw [if_pos c3] at hR
    refine lv_aload_n hx hb dX11_dye_18 rfl (lv_at hl 1 rfl) ?_
    refine gX11_memory X w lfX11_58 dX11_dye_19 ?_
    refine lv_aload_n hx hb dX11_dye_22 rfl (lv_at hl 1 rfl) ?_
    refine gX11_now X w lfX11_51 dX11_dye_23 ?_
    obtain ⟨S5, h4, hR⟩ := bd_e hR
    refine cVv (k := 23) (As := [.ref (ad 18)]) (rest := []) X hl.1 w okX4_keep obX4 rfl lmX11_210 (kX4_keep (Or.inl rfl) h4) ⟨Nat.le_of_ble_eq_true rfl, Nat.le_of_ble_eq_true rfl⟩ ⟨rfl, rfl⟩ ⟨Nat.zero_le _, Nat.zero_le _⟩ rfl rfl (Nat.le_of_ble_eq_true rfl) dX11_dye_26 (fun H locs w => ?_)
    refine lv_aload_n hx hb dX11_dye_29 rfl (lv_at hl 1 rfl) ?_
    refine gX11_now X w lfX11_51 dX11_dye_30 ?_
    refine gX8_colours (Or.inl rfl) X w lfX11_182 dX11_dye_33 ?_
    refine lv_iload_n hx hb dX11_dye_36 rfl (lv_at hl 2 rfl) ?_
    obtain ⟨g6, hR⟩ := ck_e hR
    refine ialS (n := 7) rfl (by decide) X w rfl g6 dX11_dye_37 ?_
    obtain ⟨v7, ev7, hR⟩ := lt_e hR
    refine nm_i ev7 ?_
    refine lv_istore (lv' := [(4, .int v7), (3, .int r2), (0, .ref (ad 0)), (1, .int p1), (2, .int p2)]) hx hb dX11_dye_38 hl (by decide) rfl (fun ls hl => ?_)
    refine lv_aload_n hx hb dX11_dye_40 rfl (lv_at hl 2 rfl) ?_
    refine gX11_now X w lfX11_51 dX11_dye_41 ?_
    refine gX8_colours (Or.inl rfl) X w lfX11_182 dX11_dye_44 ?_
    refine lv_iload_n hx hb dX11_dye_47 rfl (lv_at hl 3 rfl) ?_
    refine lv_iload_n hx hb dX11_dye_48 rfl (lv_at hl 4 rfl) ?_
    obtain ⟨g8, hR⟩ := ck_e hR
    obtain ⟨S9, eS9, hR⟩ := lt_e hR
    refine iasS (n := 7) rfl (by decide) X w rfl g8 dX11_dye_49 (fun H locs w => ?_)
    rw [← eS9] at w
    refine lv_aload_n hx hb dX11_dye_50 rfl (lv_at hl 2 rfl) ?_
    refine gX11_now X w lfX11_51 dX11_dye_51 ?_
    refine lv_dup hx hb dX11_dye_54 rfl ?_
    refine gX8_coins (Or.inl rfl) X w lfX11_168 dX11_dye_55 ?_
    refine lv_iconst (v := 2) hx hb dX11_dye_58 (by decide) ?_
    refine lv_isub hx hb dX11_dye_59 ?_
    obtain ⟨S10, eS10, hR⟩ := lt_e hR
    refine pX8_coins (Or.inl rfl) X w lfX11_168 dX11_dye_60 (fun H locs w => ?_)
    rw [← eS10] at w
    refine lv_iload hx hb dX11_dye_63 (lv_at hl 0 rfl) ?_
    rw [hQ]
    exact rt_i X hr hlk w hsz rfl (lf2 hR).1 rfl (lf2 hR).2 dX11_dye_65
  · rw [if_neg c3] at hR
    refine lv_aload_n hx hb dX11_dye_12 rfl (lv_at hl 1 rfl) ?_
    refine lv_iload_n hx hb dX11_dye_13 rfl (lv_at hl 0 rfl) ?_
    obtain ⟨S13, r12, h11, hR⟩ := b2_e hR
    refine cVi (k := 0) (As := [.int r2]) (rest := []) X hl.1 w okX11_refuse obX11 rfl lmX11_207 (kX11_refuse h11) ⟨Nat.le_of_ble_eq_true rfl, Nat.le_of_ble_eq_true rfl⟩ ⟨rfl, rfl⟩ ⟨Nat.zero_le _, Nat.zero_le _⟩ rfl rfl (Nat.le_of_ble_eq_true rfl) dX11_dye_14 (fun H locs zr12 w => ?_)
    rw [hQ]
    exact rt_i X hr hlk w hsz rfl (lf2 hR).1 rfl (lf2 hR).2 dX11_dye_17
/- LooseEnds.give(I)I -/
def fX11_give_j42 (N : Nat) (S : SS) : Option (SS × Int32) := b2 (fX11_refuse N S 1) fun S3 r2 =>
  some (S3, r2)
def fX11_give (N : Nat) (S : SS) (p1 : Int32) : Option (SS × Int32) := bd (fX5_isThere N S 3) fun r2 =>
  if r2 = 0 then
  (b2 (fX11_refuse N S 0) fun S12 r11 =>
  some (S12, r11))
  else
  (if p1 < 1 then
  (fX11_give_j42 N S)
  else
  (if 50 < p1 then
  (fX11_give_j42 N S)
  else
  (if ((gi S 18 8) + p1) ≤ 9999 then
  (bd (fX4_keep N S 18) fun S8 =>
  lt (pj S8 18 8 ((gi S8 18 8) + p1)) fun S9 =>
  some (S9, gi S9 18 8))
  else
  (fX11_give_j42 N S))))
set_option maxHeartbeats 4000000 in
set_option maxRecDepth 100000 in
theorem kX11_give {l : Launch} {D : va_G} {dA : Nat → ClassId} {ad : Nat → Nat} {t1 t2 : Nat} {N : Nat} {S T : SS} {o : Nat → Int64} {p1 : Int32} {r : Int32} {S' : SS} (hR : fX11_give N S p1 = some (S', r)) : KI l D dA ad t1 t2 yX11_give cX11_give 2 .int { frames := 3, cells := 0, slots := 0, locals := 84 } [.ref (ad 0), .int p1] S T o r S' T := by
  intro sz
  refine en_ (plainFor_of_name (by decide)) (Nat.le_of_ble_eq_true rfl) ?_
  intro p ev s m args below meth c QQ hQ hsz X hr hlk w ls hl
  have hx := X.1
  have hb := X.2.1
  have J42 : ∀ (S : SS), fX11_give_j42 N S = some (S', r) → WAT p l ev ({ frames := 3, cells := 0, slots := 0, locals := 84 } : Room) s m args below meth c QQ 2 D dA ad t1 t2 S T o 42 [(0, .ref (ad 0))] [] := by
    intro S hR H locs ls w hl
    unfold fX11_give_j42 at hR
    refine lv_aload_n hx hb dX11_give_42 rfl (lv_at hl 0 rfl) ?_
    refine lv_iconst (v := 1) hx hb dX11_give_43 (by decide) ?_
    obtain ⟨S3, r2, h1, hR⟩ := b2_e hR
    refine cVi (k := 0) (As := [.int 1]) (rest := []) X hl.1 w okX11_refuse obX11 rfl lmX11_207 (kX11_refuse h1) ⟨Nat.le_of_ble_eq_true rfl, Nat.le_of_ble_eq_true rfl⟩ ⟨rfl, rfl⟩ ⟨Nat.zero_le _, Nat.zero_le _⟩ rfl rfl (Nat.le_of_ble_eq_true rfl) dX11_give_44 (fun H locs zr2 w => ?_)
    rw [hQ]
    exact rt_i X hr hlk w hsz rfl (lf2 hR).1 rfl (lf2 hR).2 dX11_give_47
  have hl : lv_has ls 2 [(0, .ref (ad 0)), (1, .int p1)] := hl
  unfold fX11_give at hR
  refine lv_aload_n hx hb dX11_give_0 rfl (lv_at hl 0 rfl) ?_
  refine gX11_mill X w lfX11_19 dX11_give_1 ?_
  obtain ⟨r2, h1, hR⟩ := bd_e hR
  refine cVi (k := 3) (As := []) (rest := []) X hl.1 w okX5_isThere (obX5 (Or.inl rfl)) rfl lmX11_155 (kX5_isThere (Or.inl rfl) h1) ⟨Nat.le_of_ble_eq_true rfl, Nat.le_of_ble_eq_true rfl⟩ ⟨rfl, rfl⟩ ⟨Nat.zero_le _, Nat.zero_le _⟩ rfl rfl (Nat.le_of_ble_eq_true rfl) dX11_give_4 (fun H locs zr2 w => ?_)
  refine lv_if_ne (tgt := 16) hx hb dX11_give_7 (by decide) (fun c3 => ?_) (fun c3 => ?_)
  · rw [if_neg c3] at hR
    refine lv_iload_n hx hb dX11_give_16 rfl (lv_at hl 1 rfl) ?_
    refine lv_iconst (v := 1) hx hb dX11_give_17 (by decide) ?_
    refine lv_icmp_lt (tgt := 42) hx hb dX11_give_18 (by decide) (fun c4 => ?_) (fun c4 => ?_)
    · rw [if_pos c4] at hR
      exact J42 S hR _ _ _ w (lv_sub hl [0] rfl)
    · rw [if_neg c4] at hR
      refine lv_iload_n hx hb dX11_give_21 rfl (lv_at hl 1 rfl) ?_
      refine lv_bipush (v := 50) hx hb dX11_give_22 (by decide) ?_
      refine lv_icmp_gt (tgt := 42) hx hb dX11_give_24 (by decide) (fun c5 => ?_) (fun c5 => ?_)
      · rw [if_pos c5] at hR
        exact J42 S hR _ _ _ w (lv_sub hl [0] rfl)
      · rw [if_neg c5] at hR
        refine lv_aload_n hx hb dX11_give_27 rfl (lv_at hl 0 rfl) ?_
        refine gX11_now X w lfX11_51 dX11_give_28 ?_
        refine gX8_coins (Or.inl rfl) X w lfX11_168 dX11_give_31 ?_
        refine lv_iload_n hx hb dX11_give_34 rfl (lv_at hl 1 rfl) ?_
        refine lv_iadd hx hb dX11_give_35 ?_
        refine lv_sipush (v := 9999) hx hb dX11_give_36 (by decide) ?_
        refine lv_icmp_le (tgt := 48) hx hb dX11_give_39 (by decide) (fun c6 => ?_) (fun c6 => ?_)
        · rw [if_pos c6] at hR
          refine lv_aload_n hx hb dX11_give_48 rfl (lv_at hl 0 rfl) ?_
          refine gX11_memory X w lfX11_58 dX11_give_49 ?_
          refine lv_aload_n hx hb dX11_give_52 rfl (lv_at hl 0 rfl) ?_
          refine gX11_now X w lfX11_51 dX11_give_53 ?_
          obtain ⟨S8, h7, hR⟩ := bd_e hR
          refine cVv (k := 23) (As := [.ref (ad 18)]) (rest := []) X hl.1 w okX4_keep obX4 rfl lmX11_210 (kX4_keep (Or.inl rfl) h7) ⟨Nat.le_of_ble_eq_true rfl, Nat.le_of_ble_eq_true rfl⟩ ⟨rfl, rfl⟩ ⟨Nat.zero_le _, Nat.zero_le _⟩ rfl rfl (Nat.le_of_ble_eq_true rfl) dX11_give_56 (fun H locs w => ?_)
          refine lv_aload_n hx hb dX11_give_59 rfl (lv_at hl 0 rfl) ?_
          refine gX11_now X w lfX11_51 dX11_give_60 ?_
          refine lv_dup hx hb dX11_give_63 rfl ?_
          refine gX8_coins (Or.inl rfl) X w lfX11_168 dX11_give_64 ?_
          refine lv_iload_n hx hb dX11_give_67 rfl (lv_at hl 1 rfl) ?_
          refine lv_iadd hx hb dX11_give_68 ?_
          obtain ⟨S9, eS9, hR⟩ := lt_e hR
          refine pX8_coins (Or.inl rfl) X w lfX11_168 dX11_give_69 (fun H locs w => ?_)
          rw [← eS9] at w
          refine lv_aload_n hx hb dX11_give_72 rfl (lv_at hl 0 rfl) ?_
          refine gX11_now X w lfX11_51 dX11_give_73 ?_
          refine gX8_coins (Or.inl rfl) X w lfX11_168 dX11_give_76 ?_
          rw [hQ]
          exact rt_i X hr hlk w hsz rfl (lf2 hR).1 rfl (lf2 hR).2 dX11_give_79
        · rw [if_neg c6] at hR
          exact J42 S hR _ _ _ w (lv_sub hl [0] rfl)
  · rw [if_pos c3] at hR
    refine lv_aload_n hx hb dX11_give_10 rfl (lv_at hl 0 rfl) ?_
    refine lv_iconst (v := 0) hx hb dX11_give_11 (by decide) ?_
    obtain ⟨S12, r11, h10, hR⟩ := b2_e hR
    refine cVi (k := 0) (As := [.int 0]) (rest := []) X hl.1 w okX11_refuse obX11 rfl lmX11_207 (kX11_refuse h10) ⟨Nat.le_of_ble_eq_true rfl, Nat.le_of_ble_eq_true rfl⟩ ⟨rfl, rfl⟩ ⟨Nat.zero_le _, Nat.zero_le _⟩ rfl rfl (Nat.le_of_ble_eq_true rfl) dX11_give_12 (fun H locs zr11 w => ?_)
    rw [hQ]
    exact rt_i X hr hlk w hsz rfl (lf2 hR).1 rfl (lf2 hR).2 dX11_give_15
/- LooseEnds.days(I)I -/
def fX11_days_j27 (N : Nat) (S : SS) : Option (SS × Int32) := b2 (fX11_refuse N S 1) fun S3 r2 =>
  some (S3, r2)
def fX11_days_l56 (N : Nat) : Nat → Int32 → Int32 → SS → Option (SS × Int32)
  | 0, _, _, _ => none
  | n + 1, x1, x2, S => if x1 ≤ x2 then
  (some (S, gi S 18 9))
  else
  (bd (fX4_keep N S 18) fun S3 =>
  bd (fX10_passDay N S3 18) fun S5 =>
  lt (x2 + 1) fun v6 =>
  fX11_days_l56 N n x1 v6 S5)
def fX11_days (N : Nat) (S : SS) (p1 : Int32) : Option (SS × Int32) := bd (fX5_isThere N S 3) fun r2 =>
  if r2 = 0 then
  (b2 (fX11_refuse N S 0) fun S12 r11 =>
  some (S12, r11))
  else
  (if p1 < 1 then
  (fX11_days_j27 N S)
  else
  (if p1 ≤ 60 then
  (if ((gi S 18 9) + p1) ≤ 999 then
  (fX11_days_l56 N N p1 0 S)
  else
  (b2 (fX11_refuse N S 4) fun S9 r8 =>
  some (S9, r8)))
  else
  (fX11_days_j27 N S)))
set_option maxHeartbeats 4000000 in
set_option maxRecDepth 100000 in
theorem kX11_days {l : Launch} {D : va_G} {dA : Nat → ClassId} {ad : Nat → Nat} {t1 t2 : Nat} {N : Nat} {S T : SS} {o : Nat → Int64} {p1 : Int32} {r : Int32} {S' : SS} (hR : fX11_days N S p1 = some (S', r)) : KI l D dA ad t1 t2 yX11_days cX11_days 3 .int { frames := 4, cells := 0, slots := 0, locals := 85 } [.ref (ad 0), .int p1] S T o r S' T := by
  intro sz
  refine en_ (plainFor_of_name (by decide)) (Nat.le_of_ble_eq_true rfl) ?_
  intro p ev s m args below meth c QQ hQ hsz X hr hlk w ls hl
  have hx := X.1
  have hb := X.2.1
  have J27 : ∀ (S : SS), fX11_days_j27 N S = some (S', r) → WAT p l ev ({ frames := 4, cells := 0, slots := 0, locals := 85 } : Room) s m args below meth c QQ 3 D dA ad t1 t2 S T o 27 [(0, .ref (ad 0))] [] := by
    intro S hR H locs ls w hl
    unfold fX11_days_j27 at hR
    refine lv_aload_n hx hb dX11_days_27 rfl (lv_at hl 0 rfl) ?_
    refine lv_iconst (v := 1) hx hb dX11_days_28 (by decide) ?_
    obtain ⟨S3, r2, h1, hR⟩ := b2_e hR
    refine cVi (k := 0) (As := [.int 1]) (rest := []) X hl.1 w okX11_refuse obX11 rfl lmX11_207 (kX11_refuse h1) ⟨Nat.le_of_ble_eq_true rfl, Nat.le_of_ble_eq_true rfl⟩ ⟨rfl, rfl⟩ ⟨Nat.zero_le _, Nat.zero_le _⟩ rfl rfl (Nat.le_of_ble_eq_true rfl) dX11_days_29 (fun H locs zr2 w => ?_)
    rw [hQ]
    exact rt_i X hr hlk w hsz rfl (lf2 hR).1 rfl (lf2 hR).2 dX11_days_32
  have L56 : ∀ (n : Nat), ∀ (x1 : Int32) (x2 : Int32) (S : SS), fX11_days_l56 N n x1 x2 S = some (S', r) → WAT p l ev ({ frames := 4, cells := 0, slots := 0, locals := 85 } : Room) s m args below meth c QQ 3 D dA ad t1 t2 S T o 56 [(0, .ref (ad 0)), (1, .int x1), (2, .int x2)] [] := by
    intro n
    induction n with
    | zero =>
      intro x1 x2 S hR
      exact nomatch hR
    | succ n ih =>
      intro x1 x2 S hR H locs ls w hl
      rw [fX11_days_l56] at hR
      refine lv_iload_n hx hb dX11_days_56 rfl (lv_at hl 2 rfl) ?_
      refine lv_iload_n hx hb dX11_days_57 rfl (lv_at hl 1 rfl) ?_
      refine lv_icmp_ge (tgt := 89) hx hb dX11_days_58 (by decide) (fun c1 => ?_) (fun c1 => ?_)
      · rw [if_pos c1] at hR
        refine lv_aload_n hx hb dX11_days_89 rfl (lv_at hl 0 rfl) ?_
        refine gX11_now X w lfX11_51 dX11_days_90 ?_
        refine gX8_day (Or.inl rfl) X w lfX11_249 dX11_days_93 ?_
        rw [hQ]
        exact rt_i X hr hlk w hsz rfl (lf2 hR).1 rfl (lf2 hR).2 dX11_days_96
      · rw [if_neg c1] at hR
        refine lv_aload_n hx hb dX11_days_61 rfl (lv_at hl 0 rfl) ?_
        refine gX11_memory X w lfX11_58 dX11_days_62 ?_
        refine lv_aload_n hx hb dX11_days_65 rfl (lv_at hl 0 rfl) ?_
        refine gX11_now X w lfX11_51 dX11_days_66 ?_
        obtain ⟨S3, h2, hR⟩ := bd_e hR
        refine cVv (k := 23) (As := [.ref (ad 18)]) (rest := []) X hl.1 w okX4_keep obX4 rfl lmX11_210 (kX4_keep (Or.inl rfl) h2) ⟨Nat.le_of_ble_eq_true rfl, Nat.le_of_ble_eq_true rfl⟩ ⟨rfl, rfl⟩ ⟨Nat.zero_le _, Nat.zero_le _⟩ rfl rfl (Nat.le_of_ble_eq_true rfl) dX11_days_69 (fun H locs w => ?_)
        refine lv_aload_n hx hb dX11_days_72 rfl (lv_at hl 0 rfl) ?_
        refine gX11_works X w lfX11_67 dX11_days_73 ?_
        refine lv_aload_n hx hb dX11_days_76 rfl (lv_at hl 0 rfl) ?_
        refine gX11_now X w lfX11_51 dX11_days_77 ?_
        obtain ⟨S5, h4, hR⟩ := bd_e hR
        refine cVv (k := 28) (As := [.ref (ad 18)]) (rest := []) X hl.1 w okX10_passDay obX10 rfl lmX11_252 (kX10_passDay (Or.inl rfl) h4) ⟨Nat.le_of_ble_eq_true rfl, Nat.le_of_ble_eq_true rfl⟩ ⟨rfl, rfl⟩ ⟨Nat.zero_le _, Nat.zero_le _⟩ rfl rfl (Nat.le_of_ble_eq_true rfl) dX11_days_80 (fun H locs w => ?_)
        obtain ⟨v6, ev6, hR⟩ := lt_e hR
        refine lv_iinc (v := v6) (lv' := [(2, .int v6), (0, .ref (ad 0)), (1, .int x1)]) hx hb dX11_days_83 hl (k := 2) rfl (by rw [ev6]; rfl) (by decide) rfl (fun ls hl => ?_)
        refine lv_goto (tgt := 56) hx hb dX11_days_86 (by decide) ?_
        exact ih x1 v6 S5 hR _ _ _ w (lv_sub hl [1, 2, 0] rfl)
  have hl : lv_has ls 3 [(0, .ref (ad 0)), (1, .int p1)] := hl
  unfold fX11_days at hR
  refine lv_aload_n hx hb dX11_days_0 rfl (lv_at hl 0 rfl) ?_
  refine gX11_mill X w lfX11_19 dX11_days_1 ?_
  obtain ⟨r2, h1, hR⟩ := bd_e hR
  refine cVi (k := 3) (As := []) (rest := []) X hl.1 w okX5_isThere (obX5 (Or.inl rfl)) rfl lmX11_155 (kX5_isThere (Or.inl rfl) h1) ⟨Nat.le_of_ble_eq_true rfl, Nat.le_of_ble_eq_true rfl⟩ ⟨rfl, rfl⟩ ⟨Nat.zero_le _, Nat.zero_le _⟩ rfl rfl (Nat.le_of_ble_eq_true rfl) dX11_days_4 (fun H locs zr2 w => ?_)
  refine lv_if_ne (tgt := 16) hx hb dX11_days_7 (by decide) (fun c3 => ?_) (fun c3 => ?_)
  · rw [if_neg c3] at hR
    refine lv_iload_n hx hb dX11_days_16 rfl (lv_at hl 1 rfl) ?_
    refine lv_iconst (v := 1) hx hb dX11_days_17 (by decide) ?_
    refine lv_icmp_lt (tgt := 27) hx hb dX11_days_18 (by decide) (fun c4 => ?_) (fun c4 => ?_)
    · rw [if_pos c4] at hR
      exact J27 S hR _ _ _ w (lv_sub hl [0] rfl)
    · rw [if_neg c4] at hR
      refine lv_iload_n hx hb dX11_days_21 rfl (lv_at hl 1 rfl) ?_
      refine lv_bipush (v := 60) hx hb dX11_days_22 (by decide) ?_
      refine lv_icmp_le (tgt := 33) hx hb dX11_days_24 (by decide) (fun c5 => ?_) (fun c5 => ?_)
      · rw [if_pos c5] at hR
        refine lv_aload_n hx hb dX11_days_33 rfl (lv_at hl 0 rfl) ?_
        refine gX11_now X w lfX11_51 dX11_days_34 ?_
        refine gX8_day (Or.inl rfl) X w lfX11_249 dX11_days_37 ?_
        refine lv_iload_n hx hb dX11_days_40 rfl (lv_at hl 1 rfl) ?_
        refine lv_iadd hx hb dX11_days_41 ?_
        refine lv_sipush (v := 999) hx hb dX11_days_42 (by decide) ?_
        refine lv_icmp_le (tgt := 54) hx hb dX11_days_45 (by decide) (fun c6 => ?_) (fun c6 => ?_)
        · rw [if_pos c6] at hR
          refine lv_iconst (v := 0) hx hb dX11_days_54 (by decide) ?_
          refine lv_istore_n (lv' := [(2, .int 0), (0, .ref (ad 0)), (1, .int p1)]) hx hb dX11_days_55 rfl hl (by decide) rfl (fun ls hl => ?_)
          exact L56 N p1 0 S hR _ _ _ w (lv_sub hl [1, 2, 0] rfl)
        · rw [if_neg c6] at hR
          refine lv_aload_n hx hb dX11_days_48 rfl (lv_at hl 0 rfl) ?_
          refine lv_iconst (v := 4) hx hb dX11_days_49 (by decide) ?_
          obtain ⟨S9, r8, h7, hR⟩ := b2_e hR
          refine cVi (k := 0) (As := [.int 4]) (rest := []) X hl.1 w okX11_refuse obX11 rfl lmX11_207 (kX11_refuse h7) ⟨Nat.le_of_ble_eq_true rfl, Nat.le_of_ble_eq_true rfl⟩ ⟨rfl, rfl⟩ ⟨Nat.zero_le _, Nat.zero_le _⟩ rfl rfl (Nat.le_of_ble_eq_true rfl) dX11_days_50 (fun H locs zr8 w => ?_)
          rw [hQ]
          exact rt_i X hr hlk w hsz rfl (lf2 hR).1 rfl (lf2 hR).2 dX11_days_53
      · rw [if_neg c5] at hR
        exact J27 S hR _ _ _ w (lv_sub hl [0] rfl)
  · rw [if_pos c3] at hR
    refine lv_aload_n hx hb dX11_days_10 rfl (lv_at hl 0 rfl) ?_
    refine lv_iconst (v := 0) hx hb dX11_days_11 (by decide) ?_
    obtain ⟨S12, r11, h10, hR⟩ := b2_e hR
    refine cVi (k := 0) (As := [.int 0]) (rest := []) X hl.1 w okX11_refuse obX11 rfl lmX11_207 (kX11_refuse h10) ⟨Nat.le_of_ble_eq_true rfl, Nat.le_of_ble_eq_true rfl⟩ ⟨rfl, rfl⟩ ⟨Nat.zero_le _, Nat.zero_le _⟩ rfl rfl (Nat.le_of_ble_eq_true rfl) dX11_days_12 (fun H locs zr11 w => ?_)
    rw [hQ]
    exact rt_i X hr hlk w hsz rfl (lf2 hR).1 rfl (lf2 hR).2 dX11_days_15
/- LooseEnds.wakes(I)Z -/
def fX11_wakes (N : Nat) (S : SS) (p1 : Int32) : Option (SS × Int32) := if p1 < 0 then
  (some (S, 0))
  else
  (if 9 < p1 then
  (some (S, 0))
  else
  (if p1 = (gi S 0 12) then
  (some (S, 0))
  else
  (lt (pj S 0 12 p1) fun S4 =>
  some (S4, 1))))
set_option maxHeartbeats 4000000 in
set_option maxRecDepth 100000 in
theorem kX11_wakes {l : Launch} {D : va_G} {dA : Nat → ClassId} {ad : Nat → Nat} {t1 t2 : Nat} {N : Nat} {S T : SS} {o : Nat → Int64} {p1 : Int32} {r : Int32} {S' : SS} (hR : fX11_wakes N S p1 = some (S', r)) : KI l D dA ad t1 t2 yX11_wakes cX11_wakes 2 .boolean { frames := 0, cells := 0, slots := 0, locals := 0 } [.ref (ad 0), .int p1] S T o r S' T := by
  intro sz
  refine en_ (plainFor_of_name (by decide)) (Nat.le_of_ble_eq_true rfl) ?_
  intro p ev s m args below meth c QQ hQ hsz X hr hlk w ls hl
  have hx := X.1
  have hb := X.2.1
  have hl : lv_has ls 2 [(0, .ref (ad 0)), (1, .int p1)] := hl
  unfold fX11_wakes at hR
  refine lv_iload_n hx hb dX11_wakes_0 rfl (lv_at hl 1 rfl) ?_
  refine lv_if_lt (tgt := 18) hx hb dX11_wakes_1 (by decide) (fun c1 => ?_) (fun c1 => ?_)
  · rw [if_pos c1] at hR
    refine lv_iconst (v := 0) hx hb dX11_wakes_18 (by decide) ?_
    rw [hQ]
    exact rt_i X hr hlk w hsz rfl (lf2 hR).1 rfl (lf2 hR).2 dX11_wakes_19
  · rw [if_neg c1] at hR
    refine lv_iload_n hx hb dX11_wakes_4 rfl (lv_at hl 1 rfl) ?_
    refine lv_bipush (v := 9) hx hb dX11_wakes_5 (by decide) ?_
    refine lv_icmp_gt (tgt := 18) hx hb dX11_wakes_7 (by decide) (fun c2 => ?_) (fun c2 => ?_)
    · rw [if_pos c2] at hR
      refine lv_iconst (v := 0) hx hb dX11_wakes_18 (by decide) ?_
      rw [hQ]
      exact rt_i X hr hlk w hsz rfl (lf2 hR).1 rfl (lf2 hR).2 dX11_wakes_19
    · rw [if_neg c2] at hR
      refine lv_iload_n hx hb dX11_wakes_10 rfl (lv_at hl 1 rfl) ?_
      refine lv_aload_n hx hb dX11_wakes_11 rfl (lv_at hl 0 rfl) ?_
      refine gX11_waking X w lfX11_102 dX11_wakes_12 ?_
      refine lv_icmp_ne (tgt := 20) hx hb dX11_wakes_15 (by decide) (fun c3 => ?_) (fun c3 => ?_)
      · rw [if_neg c3] at hR
        refine lv_aload_n hx hb dX11_wakes_20 rfl (lv_at hl 0 rfl) ?_
        refine lv_iload_n hx hb dX11_wakes_21 rfl (lv_at hl 1 rfl) ?_
        obtain ⟨S4, eS4, hR⟩ := lt_e hR
        refine pX11_waking X w lfX11_102 dX11_wakes_22 (fun H locs w => ?_)
        rw [← eS4] at w
        refine lv_iconst (v := 1) hx hb dX11_wakes_25 (by decide) ?_
        rw [hQ]
        exact rt_i X hr hlk w hsz rfl (lf2 hR).1 rfl (lf2 hR).2 dX11_wakes_26
      · rw [if_pos c3] at hR
        refine lv_iconst (v := 0) hx hb dX11_wakes_18 (by decide) ?_
        rw [hQ]
        exact rt_i X hr hlk w hsz rfl (lf2 hR).1 rfl (lf2 hR).2 dX11_wakes_19
/- LooseEnds.years(IJ)I -/
def fX11_years_l49 (N : Nat) : Nat → Int32 → Int32 → SS → Option (SS × Int32)
  | 0, _, _, _ => none
  | n + 1, x1, x4, S => if x1 ≤ x4 then
  (some (S, gi S 18 9))
  else
  (bd (fX4_keep N S 18) fun S3 =>
  bd (fX10_drawDay N S3 18 (gi S3 0 12)) fun S5 =>
  lt (x4 + 1) fun v6 =>
  fX11_years_l49 N n x1 v6 S5)
def fX11_years (N : Nat) (S : SS) (p1 : Int32) (p2 : Int64) : Option (SS × Int32) := bd (fX5_isThere N S 3) fun r2 =>
  if r2 = 0 then
  (some (S, (-1)))
  else
  (if p1 < 1 then
  (some (S, (-1)))
  else
  (if 60 < p1 then
  (some (S, (-1)))
  else
  (if ((gi S 18 9) + p1) ≤ 999 then
  (lt (pl S p2) fun S7 =>
  fX11_years_l49 N N p1 0 S7)
  else
  (some (S, (-1))))))
set_option maxHeartbeats 4000000 in
set_option maxRecDepth 100000 in
theorem kX11_years {l : Launch} {D : va_G} {dA : Nat → ClassId} {ad : Nat → Nat} {t1 t2 : Nat} {N : Nat} {S T : SS} {o : Nat → Int64} {p1 : Int32} {p2 : Int64} {r : Int32} {S' : SS} (hR : fX11_years N S p1 p2 = some (S', r)) : KI l D dA ad t1 t2 yX11_years cX11_years 5 .int { frames := 6, cells := 0, slots := 0, locals := 150 } [.ref (ad 0), .int p1, .long p2] S T o r S' T := by
  intro sz
  refine en_ (plainFor_of_name (by decide)) (Nat.le_of_ble_eq_true rfl) ?_
  intro p ev s m args below meth c QQ hQ hsz X hr hlk w ls hl
  have hx := X.1
  have hb := X.2.1
  have L49 : ∀ (n : Nat), ∀ (x1 : Int32) (x4 : Int32) (S : SS), fX11_years_l49 N n x1 x4 S = some (S', r) → WAT p l ev ({ frames := 6, cells := 0, slots := 0, locals := 150 } : Room) s m args below meth c QQ 5 D dA ad t1 t2 S T o 49 [(0, .ref (ad 0)), (1, .int x1), (4, .int x4)] [] := by
    intro n
    induction n with
    | zero =>
      intro x1 x4 S hR
      exact nomatch hR
    | succ n ih =>
      intro x1 x4 S hR H locs ls w hl
      rw [fX11_years_l49] at hR
      refine lv_iload hx hb dX11_years_49 (lv_at hl 2 rfl) ?_
      refine lv_iload_n hx hb dX11_years_51 rfl (lv_at hl 1 rfl) ?_
      refine lv_icmp_ge (tgt := 87) hx hb dX11_years_52 (by decide) (fun c1 => ?_) (fun c1 => ?_)
      · rw [if_pos c1] at hR
        refine lv_aload_n hx hb dX11_years_87 rfl (lv_at hl 0 rfl) ?_
        refine gX11_now X w lfX11_51 dX11_years_88 ?_
        refine gX8_day (Or.inl rfl) X w lfX11_249 dX11_years_91 ?_
        rw [hQ]
        exact rt_i X hr hlk w hsz rfl (lf2 hR).1 rfl (lf2 hR).2 dX11_years_94
      · rw [if_neg c1] at hR
        refine lv_aload_n hx hb dX11_years_55 rfl (lv_at hl 0 rfl) ?_
        refine gX11_memory X w lfX11_58 dX11_years_56 ?_
        refine lv_aload_n hx hb dX11_years_59 rfl (lv_at hl 0 rfl) ?_
        refine gX11_now X w lfX11_51 dX11_years_60 ?_
        obtain ⟨S3, h2, hR⟩ := bd_e hR
        refine cVv (k := 23) (As := [.ref (ad 18)]) (rest := []) X hl.1 w okX4_keep obX4 rfl lmX11_210 (kX4_keep (Or.inl rfl) h2) ⟨Nat.le_of_ble_eq_true rfl, Nat.le_of_ble_eq_true rfl⟩ ⟨rfl, rfl⟩ ⟨Nat.zero_le _, Nat.zero_le _⟩ rfl rfl (Nat.le_of_ble_eq_true rfl) dX11_years_63 (fun H locs w => ?_)
        refine lv_aload_n hx hb dX11_years_66 rfl (lv_at hl 0 rfl) ?_
        refine gX11_works X w lfX11_67 dX11_years_67 ?_
        refine lv_aload_n hx hb dX11_years_70 rfl (lv_at hl 0 rfl) ?_
        refine gX11_now X w lfX11_51 dX11_years_71 ?_
        refine lv_aload_n hx hb dX11_years_74 rfl (lv_at hl 0 rfl) ?_
        refine gX11_waking X w lfX11_102 dX11_years_75 ?_
        obtain ⟨S5, h4, hR⟩ := bd_e hR
        refine cVv (k := 28) (As := [.ref (ad 18), .int (gi S3 0 12)]) (rest := []) X hl.1 w okX10_drawDay obX10 rfl lmX11_259 (kX10_drawDay (Or.inl rfl) h4) ⟨Nat.le_of_ble_eq_true rfl, Nat.le_of_ble_eq_true rfl⟩ ⟨rfl, rfl⟩ ⟨Nat.zero_le _, Nat.zero_le _⟩ rfl rfl (Nat.le_of_ble_eq_true rfl) dX11_years_78 (fun H locs w => ?_)
        obtain ⟨v6, ev6, hR⟩ := lt_e hR
        refine lv_iinc (v := v6) (lv' := [(4, .int v6), (0, .ref (ad 0)), (1, .int x1)]) hx hb dX11_years_81 hl (k := 2) rfl (by rw [ev6]; rfl) (by decide) rfl (fun ls hl => ?_)
        refine lv_goto (tgt := 49) hx hb dX11_years_84 (by decide) ?_
        exact ih x1 v6 S5 hR _ _ _ w (lv_sub hl [1, 2, 0] rfl)
  have hl : lv_has ls 5 [(0, .ref (ad 0)), (1, .int p1), (2, .long p2)] := hl
  unfold fX11_years at hR
  refine lv_aload_n hx hb dX11_years_0 rfl (lv_at hl 0 rfl) ?_
  refine gX11_mill X w lfX11_19 dX11_years_1 ?_
  obtain ⟨r2, h1, hR⟩ := bd_e hR
  refine cVi (k := 3) (As := []) (rest := []) X hl.1 w okX5_isThere (obX5 (Or.inl rfl)) rfl lmX11_155 (kX5_isThere (Or.inl rfl) h1) ⟨Nat.le_of_ble_eq_true rfl, Nat.le_of_ble_eq_true rfl⟩ ⟨rfl, rfl⟩ ⟨Nat.zero_le _, Nat.zero_le _⟩ rfl rfl (Nat.le_of_ble_eq_true rfl) dX11_years_4 (fun H locs zr2 w => ?_)
  refine lv_if_eq (tgt := 36) hx hb dX11_years_7 (by decide) (fun c3 => ?_) (fun c3 => ?_)
  · rw [if_pos c3] at hR
    refine lv_iconst (v := -1) hx hb dX11_years_36 (by decide) ?_
    rw [hQ]
    exact rt_i X hr hlk w hsz rfl (lf2 hR).1 rfl (lf2 hR).2 dX11_years_37
  · rw [if_neg c3] at hR
    refine lv_iload_n hx hb dX11_years_10 rfl (lv_at hl 1 rfl) ?_
    refine lv_iconst (v := 1) hx hb dX11_years_11 (by decide) ?_
    refine lv_icmp_lt (tgt := 36) hx hb dX11_years_12 (by decide) (fun c4 => ?_) (fun c4 => ?_)
    · rw [if_pos c4] at hR
      refine lv_iconst (v := -1) hx hb dX11_years_36 (by decide) ?_
      rw [hQ]
      exact rt_i X hr hlk w hsz rfl (lf2 hR).1 rfl (lf2 hR).2 dX11_years_37
    · rw [if_neg c4] at hR
      refine lv_iload_n hx hb dX11_years_15 rfl (lv_at hl 1 rfl) ?_
      refine lv_bipush (v := 60) hx hb dX11_years_16 (by decide) ?_
      refine lv_icmp_gt (tgt := 36) hx hb dX11_years_18 (by decide) (fun c5 => ?_) (fun c5 => ?_)
      · rw [if_pos c5] at hR
        refine lv_iconst (v := -1) hx hb dX11_years_36 (by decide) ?_
        rw [hQ]
        exact rt_i X hr hlk w hsz rfl (lf2 hR).1 rfl (lf2 hR).2 dX11_years_37
      · rw [if_neg c5] at hR
        refine lv_aload_n hx hb dX11_years_21 rfl (lv_at hl 0 rfl) ?_
        refine gX11_now X w lfX11_51 dX11_years_22 ?_
        refine gX8_day (Or.inl rfl) X w lfX11_249 dX11_years_25 ?_
        refine lv_iload_n hx hb dX11_years_28 rfl (lv_at hl 1 rfl) ?_
        refine lv_iadd hx hb dX11_years_29 ?_
        refine lv_sipush (v := 999) hx hb dX11_years_30 (by decide) ?_
        refine lv_icmp_le (tgt := 38) hx hb dX11_years_33 (by decide) (fun c6 => ?_) (fun c6 => ?_)
        · rw [if_pos c6] at hR
          refine lv_aload_n hx hb dX11_years_38 rfl (lv_at hl 0 rfl) ?_
          refine gX11_works X w lfX11_67 dX11_years_39 ?_
          refine lv_lload_n hx hb dX11_years_42 rfl (lv_at hl 2 rfl) ?_
          obtain ⟨S7, eS7, hR⟩ := lt_e hR
          refine pX10_seed X w lfX11_255 dX11_years_43 (fun H locs w => ?_)
          rw [← eS7] at w
          refine lv_iconst (v := 0) hx hb dX11_years_46 (by decide) ?_
          refine lv_istore (lv' := [(4, .int 0), (0, .ref (ad 0)), (1, .int p1), (2, .long p2)]) hx hb dX11_years_47 hl (by decide) rfl (fun ls hl => ?_)
          exact L49 N p1 0 S7 hR _ _ _ w (lv_sub hl [1, 2, 0] rfl)
        · rw [if_neg c6] at hR
          refine lv_iconst (v := -1) hx hb dX11_years_36 (by decide) ?_
          rw [hQ]
          exact rt_i X hr hlk w hsz rfl (lf2 hR).1 rfl (lf2 hR).2 dX11_years_37
/- LooseEnds.status(I)I -/
def fX11_status (N : Nat) (S : SS) (p1 : Int32) : Option (Int32) := if p1 < 0 then
  (some (-1))
  else
  (if 5 ≤ p1 then
  (some (-1))
  else
  (ck (inb p1 5) <|
  some (ga S 47 p1)))
set_option maxHeartbeats 4000000 in
set_option maxRecDepth 100000 in
theorem kX11_status {l : Launch} {D : va_G} {dA : Nat → ClassId} {ad : Nat → Nat} {t1 t2 : Nat} {N : Nat} {S T : SS} {o : Nat → Int64} {p1 : Int32} {r : Int32} (hR : fX11_status N S p1 = some r) : KI l D dA ad t1 t2 yX11_status cX11_status 2 .int { frames := 0, cells := 0, slots := 0, locals := 0 } [.ref (ad 0), .int p1] S T o r S T := by
  intro sz
  refine en_ (plainFor_of_name (by decide)) (Nat.le_of_ble_eq_true rfl) ?_
  intro p ev s m args below meth c QQ hQ hsz X hr hlk w ls hl
  have hx := X.1
  have hb := X.2.1
  have hl : lv_has ls 2 [(0, .ref (ad 0)), (1, .int p1)] := hl
  unfold fX11_status at hR
  refine lv_iload_n hx hb dX11_status_0 rfl (lv_at hl 1 rfl) ?_
  refine lv_if_lt (tgt := 18) hx hb dX11_status_1 (by decide) (fun c1 => ?_) (fun c1 => ?_)
  · rw [if_pos c1] at hR
    refine lv_iconst (v := -1) hx hb dX11_status_18 (by decide) ?_
    rw [hQ]
    exact rt_i X hr hlk w hsz rfl rfl rfl (lf1 hR) dX11_status_19
  · rw [if_neg c1] at hR
    refine lv_iload_n hx hb dX11_status_4 rfl (lv_at hl 1 rfl) ?_
    refine lv_iconst (v := 5) hx hb dX11_status_5 (by decide) ?_
    refine lv_icmp_ge (tgt := 18) hx hb dX11_status_6 (by decide) (fun c2 => ?_) (fun c2 => ?_)
    · rw [if_pos c2] at hR
      refine lv_iconst (v := -1) hx hb dX11_status_18 (by decide) ?_
      rw [hQ]
      exact rt_i X hr hlk w hsz rfl rfl rfl (lf1 hR) dX11_status_19
    · rw [if_neg c2] at hR
      refine lv_aload_n hx hb dX11_status_9 rfl (lv_at hl 0 rfl) ?_
      refine gX11_refused X w lfX11_98 dX11_status_10 ?_
      refine lv_iload_n hx hb dX11_status_13 rfl (lv_at hl 1 rfl) ?_
      obtain ⟨g3, hR⟩ := ck_e hR
      refine ialS (n := 5) rfl (by decide) X w rfl g3 dX11_status_14 ?_
      refine lv_goto (tgt := 19) hx hb dX11_status_15 (by decide) ?_
      rw [hQ]
      exact rt_i X hr hlk w hsz rfl rfl rfl (lf1 hR) dX11_status_19
/- LooseEnds.undo()I -/
def fX11_undo (N : Nat) (S : SS) : Option (SS × Int32) := b2 (fX4_bringBackLatest N S 18) fun S3 r2 =>
  if r2 = 0 then
  (some (S3, (-1)))
  else
  (some (S3, gi S3 23 6))
set_option maxHeartbeats 4000000 in
set_option maxRecDepth 100000 in
theorem kX11_undo {l : Launch} {D : va_G} {dA : Nat → ClassId} {ad : Nat → Nat} {t1 t2 : Nat} {N : Nat} {S T : SS} {o : Nat → Int64} {r : Int32} {S' : SS} (hR : fX11_undo N S = some (S', r)) : KI l D dA ad t1 t2 yX11_undo cX11_undo 1 .int { frames := 3, cells := 0, slots := 0, locals := 84 } [.ref (ad 0)] S T o r S' T := by
  intro sz
  refine en_ (plainFor_of_name (by decide)) (Nat.le_of_ble_eq_true rfl) ?_
  intro p ev s m args below meth c QQ hQ hsz X hr hlk w ls hl
  have hx := X.1
  have hb := X.2.1
  have hl : lv_has ls 1 [(0, .ref (ad 0))] := hl
  unfold fX11_undo at hR
  refine lv_aload_n hx hb dX11_undo_0 rfl (lv_at hl 0 rfl) ?_
  refine gX11_memory X w lfX11_58 dX11_undo_1 ?_
  refine lv_aload_n hx hb dX11_undo_4 rfl (lv_at hl 0 rfl) ?_
  refine gX11_now X w lfX11_51 dX11_undo_5 ?_
  obtain ⟨S3, r2, h1, hR⟩ := b2_e hR
  refine cVi (k := 23) (As := [.ref (ad 18)]) (rest := []) X hl.1 w okX4_bringBackLatest obX4 rfl lmX11_263 (kX4_bringBackLatest (Or.inl rfl) h1) ⟨Nat.le_of_ble_eq_true rfl, Nat.le_of_ble_eq_true rfl⟩ ⟨rfl, rfl⟩ ⟨Nat.zero_le _, Nat.zero_le _⟩ rfl rfl (Nat.le_of_ble_eq_true rfl) dX11_undo_8 (fun H locs zr2 w => ?_)
  refine lv_if_eq (tgt := 24) hx hb dX11_undo_11 (by decide) (fun c4 => ?_) (fun c4 => ?_)
  · rw [if_pos c4] at hR
    refine lv_iconst (v := -1) hx hb dX11_undo_24 (by decide) ?_
    rw [hQ]
    exact rt_i X hr hlk w hsz rfl (lf2 hR).1 rfl (lf2 hR).2 dX11_undo_25
  · rw [if_neg c4] at hR
    refine lv_aload_n hx hb dX11_undo_14 rfl (lv_at hl 0 rfl) ?_
    refine gX11_memory X w lfX11_58 dX11_undo_15 ?_
    refine gX4_size X w lfX11_267 dX11_undo_18 ?_
    refine lv_goto (tgt := 25) hx hb dX11_undo_21 (by decide) ?_
    rw [hQ]
    exact rt_i X hr hlk w hsz rfl (lf2 hR).1 rfl (lf2 hR).2 dX11_undo_25
/- LooseEnds.log(II)I -/
def fX11_log (N : Nat) (S : SS) (p1 : Int32) (p2 : Int32) : Option (Int32) := bd (fX4_readDay N S (gi S 18 9) p1 p2) fun r2 =>
  some r2
set_option maxHeartbeats 4000000 in
set_option maxRecDepth 100000 in
theorem kX11_log {l : Launch} {D : va_G} {dA : Nat → ClassId} {ad : Nat → Nat} {t1 t2 : Nat} {N : Nat} {S T : SS} {o : Nat → Int64} {p1 : Int32} {p2 : Int32} {r : Int32} (hR : fX11_log N S p1 p2 = some r) : KI l D dA ad t1 t2 yX11_log cX11_log 3 .int { frames := 3, cells := 0, slots := 0, locals := 65 } [.ref (ad 0), .int p1, .int p2] S T o r S T := by
  intro sz
  refine en_ (plainFor_of_name (by decide)) (Nat.le_of_ble_eq_true rfl) ?_
  intro p ev s m args below meth c QQ hQ hsz X hr hlk w ls hl
  have hx := X.1
  have hb := X.2.1
  have hl : lv_has ls 3 [(0, .ref (ad 0)), (1, .int p1), (2, .int p2)] := hl
  unfold fX11_log at hR
  refine lv_aload_n hx hb dX11_log_0 rfl (lv_at hl 0 rfl) ?_
  refine gX11_memory X w lfX11_58 dX11_log_1 ?_
  refine lv_aload_n hx hb dX11_log_4 rfl (lv_at hl 0 rfl) ?_
  refine gX11_now X w lfX11_51 dX11_log_5 ?_
  refine gX8_day (Or.inl rfl) X w lfX11_249 dX11_log_8 ?_
  refine lv_iload_n hx hb dX11_log_11 rfl (lv_at hl 1 rfl) ?_
  refine lv_iload_n hx hb dX11_log_12 rfl (lv_at hl 2 rfl) ?_
  obtain ⟨r2, h1, hR⟩ := bd_e hR
  refine cVi (k := 23) (As := [.int (gi S 18 9), .int p1, .int p2]) (rest := []) X hl.1 w okX4_readDay obX4 rfl lmX11_268 (kX4_readDay h1) ⟨Nat.le_of_ble_eq_true rfl, Nat.le_of_ble_eq_true rfl⟩ ⟨rfl, rfl⟩ ⟨Nat.zero_le _, Nat.zero_le _⟩ rfl rfl (Nat.le_of_ble_eq_true rfl) dX11_log_13 (fun H locs zr2 w => ?_)
  rw [hQ]
  exact rt_i X hr hlk w hsz rfl rfl rfl (lf1 hR) dX11_log_16
/- LooseEnds.fits(II)I -/
def fX11_fits (N : Nat) (S : SS) (p1 : Int32) (p2 : Int32) : Option (SS × Int32) := bd (fX5_has N S 3 p1) fun r2 =>
  if r2 = 0 then
  (some (S, (-1)))
  else
  (bd (fX5_has N S 3 p2) fun r5 =>
  if r5 = 0 then
  (some (S, (-1)))
  else
  (if p1 = p2 then
  (some (S, (-1)))
  else
  (bd (fX8_sizeOf N S 18 p1) fun r9 =>
  b2 (fX10_goesWith N S 18 p1 p2 r9) fun S12 r11 =>
  if r11 = 0 then
  (some (S12, 0))
  else
  (some (S12, 1)))))
set_option maxHeartbeats 4000000 in
set_option maxRecDepth 100000 in
theorem kX11_fits {l : Launch} {D : va_G} {dA : Nat → ClassId} {ad : Nat → Nat} {t1 t2 : Nat} {N : Nat} {S T : SS} {o : Nat → Int64} {p1 : Int32} {p2 : Int32} {r : Int32} {S' : SS} (hR : fX11_fits N S p1 p2 = some (S', r)) : KI l D dA ad t1 t2 yX11_fits cX11_fits 3 .int { frames := 4, cells := 0, slots := 0, locals := 101 } [.ref (ad 0), .int p1, .int p2] S T o r S' T := by
  intro sz
  refine en_ (plainFor_of_name (by decide)) (Nat.le_of_ble_eq_true rfl) ?_
  intro p ev s m args below meth c QQ hQ hsz X hr hlk w ls hl
  have hx := X.1
  have hb := X.2.1
  have hl : lv_has ls 3 [(0, .ref (ad 0)), (1, .int p1), (2, .int p2)] := hl
  unfold fX11_fits at hR
  refine lv_aload_n hx hb dX11_fits_0 rfl (lv_at hl 0 rfl) ?_
  refine gX11_mill X w lfX11_19 dX11_fits_1 ?_
  refine lv_iload_n hx hb dX11_fits_4 rfl (lv_at hl 1 rfl) ?_
  obtain ⟨r2, h1, hR⟩ := bd_e hR
  refine cVi (k := 3) (As := [.int p1]) (rest := []) X hl.1 w okX5_has (obX5 (Or.inl rfl)) rfl lmX11_171 (kX5_has (Or.inl rfl) h1) ⟨Nat.le_of_ble_eq_true rfl, Nat.le_of_ble_eq_true rfl⟩ ⟨rfl, rfl⟩ ⟨Nat.zero_le _, Nat.zero_le _⟩ rfl rfl (Nat.le_of_ble_eq_true rfl) dX11_fits_5 (fun H locs zr2 w => ?_)
  refine lv_if_eq (tgt := 27) hx hb dX11_fits_8 (by decide) (fun c3 => ?_) (fun c3 => ?_)
  · rw [if_pos c3] at hR
    refine lv_iconst (v := -1) hx hb dX11_fits_27 (by decide) ?_
    rw [hQ]
    exact rt_i X hr hlk w hsz rfl (lf2 hR).1 rfl (lf2 hR).2 dX11_fits_28
  · rw [if_neg c3] at hR
    refine lv_aload_n hx hb dX11_fits_11 rfl (lv_at hl 0 rfl) ?_
    refine gX11_mill X w lfX11_19 dX11_fits_12 ?_
    refine lv_iload_n hx hb dX11_fits_15 rfl (lv_at hl 2 rfl) ?_
    obtain ⟨r5, h4, hR⟩ := bd_e hR
    refine cVi (k := 3) (As := [.int p2]) (rest := []) X hl.1 w okX5_has (obX5 (Or.inl rfl)) rfl lmX11_171 (kX5_has (Or.inl rfl) h4) ⟨Nat.le_of_ble_eq_true rfl, Nat.le_of_ble_eq_true rfl⟩ ⟨rfl, rfl⟩ ⟨Nat.zero_le _, Nat.zero_le _⟩ rfl rfl (Nat.le_of_ble_eq_true rfl) dX11_fits_16 (fun H locs zr5 w => ?_)
    refine lv_if_eq (tgt := 27) hx hb dX11_fits_19 (by decide) (fun c6 => ?_) (fun c6 => ?_)
    · rw [if_pos c6] at hR
      refine lv_iconst (v := -1) hx hb dX11_fits_27 (by decide) ?_
      rw [hQ]
      exact rt_i X hr hlk w hsz rfl (lf2 hR).1 rfl (lf2 hR).2 dX11_fits_28
    · rw [if_neg c6] at hR
      refine lv_iload_n hx hb dX11_fits_22 rfl (lv_at hl 1 rfl) ?_
      refine lv_iload_n hx hb dX11_fits_23 rfl (lv_at hl 2 rfl) ?_
      refine lv_icmp_ne (tgt := 29) hx hb dX11_fits_24 (by decide) (fun c7 => ?_) (fun c7 => ?_)
      · rw [if_neg c7] at hR
        refine lv_aload_n hx hb dX11_fits_29 rfl (lv_at hl 0 rfl) ?_
        refine gX11_works X w lfX11_67 dX11_fits_30 ?_
        refine lv_aload_n hx hb dX11_fits_33 rfl (lv_at hl 0 rfl) ?_
        refine gX11_now X w lfX11_51 dX11_fits_34 ?_
        refine lv_iload_n hx hb dX11_fits_37 rfl (lv_at hl 1 rfl) ?_
        refine lv_iload_n hx hb dX11_fits_38 rfl (lv_at hl 2 rfl) ?_
        refine lv_aload_n hx hb dX11_fits_39 rfl (lv_at hl 0 rfl) ?_
        refine gX11_now X w lfX11_51 dX11_fits_40 ?_
        refine lv_iload_n hx hb dX11_fits_43 rfl (lv_at hl 1 rfl) ?_
        obtain ⟨r9, h8, hR⟩ := bd_e hR
        refine cVi (k := 18) (As := [.int p1]) (rest := [.int p2, .int p1, .ref (ad 18), .ref (ad 28)]) X hl.1 w okX8_sizeOf (obX8 (Or.inl rfl)) rfl lmX11_272 (kX8_sizeOf (Or.inl rfl) h8) ⟨Nat.le_of_ble_eq_true rfl, Nat.le_of_ble_eq_true rfl⟩ ⟨rfl, rfl⟩ ⟨Nat.zero_le _, Nat.zero_le _⟩ rfl rfl (Nat.le_of_ble_eq_true rfl) dX11_fits_44 (fun H locs zr9 w => ?_)
        obtain ⟨S12, r11, h10, hR⟩ := b2_e hR
        refine cVi (k := 28) (As := [.ref (ad 18), .int p1, .int p2, .int r9]) (rest := []) X hl.1 w okX10_goesWith obX10 rfl lmX11_275 (kX10_goesWith (Or.inl rfl) h10) ⟨Nat.le_of_ble_eq_true rfl, Nat.le_of_ble_eq_true rfl⟩ ⟨rfl, rfl⟩ ⟨Nat.zero_le _, Nat.zero_le _⟩ rfl rfl (Nat.le_of_ble_eq_true rfl) dX11_fits_47 (fun H locs zr11 w => ?_)
        refine lv_if_eq (tgt := 57) hx hb dX11_fits_50 (by decide) (fun c13 => ?_) (fun c13 => ?_)
        · rw [if_pos c13] at hR
          refine lv_iconst (v := 0) hx hb dX11_fits_57 (by decide) ?_
          rw [hQ]
          exact rt_i X hr hlk w hsz rfl (lf2 hR).1 rfl (lf2 hR).2 dX11_fits_58
        · rw [if_neg c13] at hR
          refine lv_iconst (v := 1) hx hb dX11_fits_53 (by decide) ?_
          refine lv_goto (tgt := 58) hx hb dX11_fits_54 (by decide) ?_
          rw [hQ]
          exact rt_i X hr hlk w hsz rfl (lf2 hR).1 rfl (lf2 hR).2 dX11_fits_58
      · rw [if_pos c7] at hR
        refine lv_iconst (v := -1) hx hb dX11_fits_27 (by decide) ?_
        rw [hQ]
        exact rt_i X hr hlk w hsz rfl (lf2 hR).1 rfl (lf2 hR).2 dX11_fits_28
/- LooseEnds.could(I)I -/
def fX11_could (N : Nat) (S : SS) (p1 : Int32) : Option (SS × Int32) := bd (fX5_has N S 3 p1) fun r2 =>
  if r2 = 0 then
  (some (S, (-1)))
  else
  (b2 (fX0_partnersOf N S p1) fun S6 r5 =>
  some (S6, r5))
set_option maxHeartbeats 4000000 in
set_option maxRecDepth 100000 in
theorem kX11_could {l : Launch} {D : va_G} {dA : Nat → ClassId} {ad : Nat → Nat} {t1 t2 : Nat} {N : Nat} {S T : SS} {o : Nat → Int64} {p1 : Int32} {r : Int32} {S' : SS} (hR : fX11_could N S p1 = some (S', r)) : KI l D dA ad t1 t2 yX11_could cX11_could 2 .int { frames := 5, cells := 0, slots := 0, locals := 125 } [.ref (ad 0), .int p1] S T o r S' T := by
  intro sz
  refine en_ (plainFor_of_name (by decide)) (Nat.le_of_ble_eq_true rfl) ?_
  intro p ev s m args below meth c QQ hQ hsz X hr hlk w ls hl
  have hx := X.1
  have hb := X.2.1
  have hl : lv_has ls 2 [(0, .ref (ad 0)), (1, .int p1)] := hl
  unfold fX11_could at hR
  refine lv_aload_n hx hb dX11_could_0 rfl (lv_at hl 0 rfl) ?_
  refine gX11_mill X w lfX11_19 dX11_could_1 ?_
  refine lv_iload_n hx hb dX11_could_4 rfl (lv_at hl 1 rfl) ?_
  obtain ⟨r2, h1, hR⟩ := bd_e hR
  refine cVi (k := 3) (As := [.int p1]) (rest := []) X hl.1 w okX5_has (obX5 (Or.inl rfl)) rfl lmX11_171 (kX5_has (Or.inl rfl) h1) ⟨Nat.le_of_ble_eq_true rfl, Nat.le_of_ble_eq_true rfl⟩ ⟨rfl, rfl⟩ ⟨Nat.zero_le _, Nat.zero_le _⟩ rfl rfl (Nat.le_of_ble_eq_true rfl) dX11_could_5 (fun H locs zr2 w => ?_)
  refine lv_if_eq (tgt := 22) hx hb dX11_could_8 (by decide) (fun c3 => ?_) (fun c3 => ?_)
  · rw [if_pos c3] at hR
    refine lv_iconst (v := -1) hx hb dX11_could_22 (by decide) ?_
    rw [hQ]
    exact rt_i X hr hlk w hsz rfl (lf2 hR).1 rfl (lf2 hR).2 dX11_could_23
  · rw [if_neg c3] at hR
    refine lv_aload_n hx hb dX11_could_11 rfl (lv_at hl 0 rfl) ?_
    refine gX11_advice X w lfX11_76 dX11_could_12 ?_
    refine lv_iload_n hx hb dX11_could_15 rfl (lv_at hl 1 rfl) ?_
    obtain ⟨S6, r5, h4, hR⟩ := b2_e hR
    refine cVi (k := 29) (As := [.int p1]) (rest := []) X hl.1 w okX0_partnersOf obX0 rfl lmX11_279 (kX0_partnersOf h4) ⟨Nat.le_of_ble_eq_true rfl, Nat.le_of_ble_eq_true rfl⟩ ⟨rfl, rfl⟩ ⟨Nat.zero_le _, Nat.zero_le _⟩ rfl rfl (Nat.le_of_ble_eq_true rfl) dX11_could_16 (fun H locs zr5 w => ?_)
    refine lv_goto (tgt := 23) hx hb dX11_could_19 (by decide) ?_
    rw [hQ]
    exact rt_i X hr hlk w hsz rfl (lf2 hR).1 rfl (lf2 hR).2 dX11_could_23
/- LooseEnds.knots(I)I -/
def fX11_knots (N : Nat) (S : SS) (p1 : Int32) : Option (SS × Int32) := bd (fX5_isThere N S 3) fun r2 =>
  if r2 = 0 then
  (some (S, (-1)))
  else
  (if p1 < 0 then
  (some (S, (-1)))
  else
  (if p1 ≤ 1 then
  (bd (fX0_findKnots N S) fun S7 =>
  if p1 = 0 then
  (some (S7, gi S7 29 11))
  else
  (some (S7, gi S7 29 10)))
  else
  (some (S, (-1)))))
set_option maxHeartbeats 4000000 in
set_option maxRecDepth 100000 in
theorem kX11_knots {l : Launch} {D : va_G} {dA : Nat → ClassId} {ad : Nat → Nat} {t1 t2 : Nat} {N : Nat} {S T : SS} {o : Nat → Int64} {p1 : Int32} {r : Int32} {S' : SS} (hR : fX11_knots N S p1 = some (S', r)) : KI l D dA ad t1 t2 yX11_knots cX11_knots 2 .int { frames := 22, cells := 0, slots := 0, locals := 495 } [.ref (ad 0), .int p1] S T o r S' T := by
  intro sz
  refine en_ (plainFor_of_name (by decide)) (Nat.le_of_ble_eq_true rfl) ?_
  intro p ev s m args below meth c QQ hQ hsz X hr hlk w ls hl
  have hx := X.1
  have hb := X.2.1
  have hl : lv_has ls 2 [(0, .ref (ad 0)), (1, .int p1)] := hl
  unfold fX11_knots at hR
  refine lv_aload_n hx hb dX11_knots_0 rfl (lv_at hl 0 rfl) ?_
  refine gX11_mill X w lfX11_19 dX11_knots_1 ?_
  obtain ⟨r2, h1, hR⟩ := bd_e hR
  refine cVi (k := 3) (As := []) (rest := []) X hl.1 w okX5_isThere (obX5 (Or.inl rfl)) rfl lmX11_155 (kX5_isThere (Or.inl rfl) h1) ⟨Nat.le_of_ble_eq_true rfl, Nat.le_of_ble_eq_true rfl⟩ ⟨rfl, rfl⟩ ⟨Nat.zero_le _, Nat.zero_le _⟩ rfl rfl (Nat.le_of_ble_eq_true rfl) dX11_knots_4 (fun H locs zr2 w => ?_)
  refine lv_if_eq (tgt := 19) hx hb dX11_knots_7 (by decide) (fun c3 => ?_) (fun c3 => ?_)
  · rw [if_pos c3] at hR
    refine lv_iconst (v := -1) hx hb dX11_knots_19 (by decide) ?_
    rw [hQ]
    exact rt_i X hr hlk w hsz rfl (lf2 hR).1 rfl (lf2 hR).2 dX11_knots_20
  · rw [if_neg c3] at hR
    refine lv_iload_n hx hb dX11_knots_10 rfl (lv_at hl 1 rfl) ?_
    refine lv_if_lt (tgt := 19) hx hb dX11_knots_11 (by decide) (fun c4 => ?_) (fun c4 => ?_)
    · rw [if_pos c4] at hR
      refine lv_iconst (v := -1) hx hb dX11_knots_19 (by decide) ?_
      rw [hQ]
      exact rt_i X hr hlk w hsz rfl (lf2 hR).1 rfl (lf2 hR).2 dX11_knots_20
    · rw [if_neg c4] at hR
      refine lv_iload_n hx hb dX11_knots_14 rfl (lv_at hl 1 rfl) ?_
      refine lv_iconst (v := 1) hx hb dX11_knots_15 (by decide) ?_
      refine lv_icmp_le (tgt := 21) hx hb dX11_knots_16 (by decide) (fun c5 => ?_) (fun c5 => ?_)
      · rw [if_pos c5] at hR
        refine lv_aload_n hx hb dX11_knots_21 rfl (lv_at hl 0 rfl) ?_
        refine gX11_advice X w lfX11_76 dX11_knots_22 ?_
        obtain ⟨S7, h6, hR⟩ := bd_e hR
        refine cVv (k := 29) (As := []) (rest := []) X hl.1 w okX0_findKnots obX0 rfl lmX11_282 (kX0_findKnots h6) ⟨Nat.le_of_ble_eq_true rfl, Nat.le_of_ble_eq_true rfl⟩ ⟨rfl, rfl⟩ ⟨Nat.zero_le _, Nat.zero_le _⟩ rfl rfl (Nat.le_of_ble_eq_true rfl) dX11_knots_25 (fun H locs w => ?_)
        refine lv_iload_n hx hb dX11_knots_28 rfl (lv_at hl 1 rfl) ?_
        refine lv_if_ne (tgt := 42) hx hb dX11_knots_29 (by decide) (fun c8 => ?_) (fun c8 => ?_)
        · rw [if_neg c8] at hR
          refine lv_aload_n hx hb dX11_knots_42 rfl (lv_at hl 0 rfl) ?_
          refine gX11_advice X w lfX11_76 dX11_knots_43 ?_
          refine gX0_best X w lfX11_288 dX11_knots_46 ?_
          rw [hQ]
          exact rt_i X hr hlk w hsz rfl (lf2 hR).1 rfl (lf2 hR).2 dX11_knots_49
        · rw [if_pos c8] at hR
          refine lv_aload_n hx hb dX11_knots_32 rfl (lv_at hl 0 rfl) ?_
          refine gX11_advice X w lfX11_76 dX11_knots_33 ?_
          refine gX0_bestRow X w lfX11_285 dX11_knots_36 ?_
          refine lv_goto (tgt := 49) hx hb dX11_knots_39 (by decide) ?_
          rw [hQ]
          exact rt_i X hr hlk w hsz rfl (lf2 hR).1 rfl (lf2 hR).2 dX11_knots_49
      · rw [if_neg c5] at hR
        refine lv_iconst (v := -1) hx hb dX11_knots_19 (by decide) ?_
        rw [hQ]
        exact rt_i X hr hlk w hsz rfl (lf2 hR).1 rfl (lf2 hR).2 dX11_knots_20
/- LooseEnds.tale(I)I -/
def fX11_tale (N : Nat) (S : SS) (p1 : Int32) : Option (SS × Int32) := bd (fX5_isThere N S 3) fun r2 =>
  if r2 = 0 then
  (some (S, (-1)))
  else
  (if p1 < 0 then
  (some (S, (-1)))
  else
  (if p1 ≤ 1 then
  (bd (fX0_findTale N S) fun S7 =>
  if p1 = 0 then
  (some (S7, gi S7 29 11))
  else
  (some (S7, gi S7 29 10)))
  else
  (some (S, (-1)))))
set_option maxHeartbeats 4000000 in
set_option maxRecDepth 100000 in
theorem kX11_tale {l : Launch} {D : va_G} {dA : Nat → ClassId} {ad : Nat → Nat} {t1 t2 : Nat} {N : Nat} {S T : SS} {o : Nat → Int64} {p1 : Int32} {r : Int32} {S' : SS} (hR : fX11_tale N S p1 = some (S', r)) : KI l D dA ad t1 t2 yX11_tale cX11_tale 2 .int { frames := 6, cells := 0, slots := 0, locals := 150 } [.ref (ad 0), .int p1] S T o r S' T := by
  intro sz
  refine en_ (plainFor_of_name (by decide)) (Nat.le_of_ble_eq_true rfl) ?_
  intro p ev s m args below meth c QQ hQ hsz X hr hlk w ls hl
  have hx := X.1
  have hb := X.2.1
  have hl : lv_has ls 2 [(0, .ref (ad 0)), (1, .int p1)] := hl
  unfold fX11_tale at hR
  refine lv_aload_n hx hb dX11_tale_0 rfl (lv_at hl 0 rfl) ?_
  refine gX11_mill X w lfX11_19 dX11_tale_1 ?_
  obtain ⟨r2, h1, hR⟩ := bd_e hR
  refine cVi (k := 3) (As := []) (rest := []) X hl.1 w okX5_isThere (obX5 (Or.inl rfl)) rfl lmX11_155 (kX5_isThere (Or.inl rfl) h1) ⟨Nat.le_of_ble_eq_true rfl, Nat.le_of_ble_eq_true rfl⟩ ⟨rfl, rfl⟩ ⟨Nat.zero_le _, Nat.zero_le _⟩ rfl rfl (Nat.le_of_ble_eq_true rfl) dX11_tale_4 (fun H locs zr2 w => ?_)
  refine lv_if_eq (tgt := 19) hx hb dX11_tale_7 (by decide) (fun c3 => ?_) (fun c3 => ?_)
  · rw [if_pos c3] at hR
    refine lv_iconst (v := -1) hx hb dX11_tale_19 (by decide) ?_
    rw [hQ]
    exact rt_i X hr hlk w hsz rfl (lf2 hR).1 rfl (lf2 hR).2 dX11_tale_20
  · rw [if_neg c3] at hR
    refine lv_iload_n hx hb dX11_tale_10 rfl (lv_at hl 1 rfl) ?_
    refine lv_if_lt (tgt := 19) hx hb dX11_tale_11 (by decide) (fun c4 => ?_) (fun c4 => ?_)
    · rw [if_pos c4] at hR
      refine lv_iconst (v := -1) hx hb dX11_tale_19 (by decide) ?_
      rw [hQ]
      exact rt_i X hr hlk w hsz rfl (lf2 hR).1 rfl (lf2 hR).2 dX11_tale_20
    · rw [if_neg c4] at hR
      refine lv_iload_n hx hb dX11_tale_14 rfl (lv_at hl 1 rfl) ?_
      refine lv_iconst (v := 1) hx hb dX11_tale_15 (by decide) ?_
      refine lv_icmp_le (tgt := 21) hx hb dX11_tale_16 (by decide) (fun c5 => ?_) (fun c5 => ?_)
      · rw [if_pos c5] at hR
        refine lv_aload_n hx hb dX11_tale_21 rfl (lv_at hl 0 rfl) ?_
        refine gX11_advice X w lfX11_76 dX11_tale_22 ?_
        obtain ⟨S7, h6, hR⟩ := bd_e hR
        refine cVv (k := 29) (As := []) (rest := []) X hl.1 w okX0_findTale obX0 rfl lmX11_291 (kX0_findTale h6) ⟨Nat.le_of_ble_eq_true rfl, Nat.le_of_ble_eq_true rfl⟩ ⟨rfl, rfl⟩ ⟨Nat.zero_le _, Nat.zero_le _⟩ rfl rfl (Nat.le_of_ble_eq_true rfl) dX11_tale_25 (fun H locs w => ?_)
        refine lv_iload_n hx hb dX11_tale_28 rfl (lv_at hl 1 rfl) ?_
        refine lv_if_ne (tgt := 42) hx hb dX11_tale_29 (by decide) (fun c8 => ?_) (fun c8 => ?_)
        · rw [if_neg c8] at hR
          refine lv_aload_n hx hb dX11_tale_42 rfl (lv_at hl 0 rfl) ?_
          refine gX11_advice X w lfX11_76 dX11_tale_43 ?_
          refine gX0_best X w lfX11_288 dX11_tale_46 ?_
          rw [hQ]
          exact rt_i X hr hlk w hsz rfl (lf2 hR).1 rfl (lf2 hR).2 dX11_tale_49
        · rw [if_pos c8] at hR
          refine lv_aload_n hx hb dX11_tale_32 rfl (lv_at hl 0 rfl) ?_
          refine gX11_advice X w lfX11_76 dX11_tale_33 ?_
          refine gX0_bestRow X w lfX11_285 dX11_tale_36 ?_
          refine lv_goto (tgt := 49) hx hb dX11_tale_39 (by decide) ?_
          rw [hQ]
          exact rt_i X hr hlk w hsz rfl (lf2 hR).1 rfl (lf2 hR).2 dX11_tale_49
      · rw [if_neg c5] at hR
        refine lv_iconst (v := -1) hx hb dX11_tale_19 (by decide) ?_
        rw [hQ]
        exact rt_i X hr hlk w hsz rfl (lf2 hR).1 rfl (lf2 hR).2 dX11_tale_20
/- LooseEnds.plan(II)I -/
def fX11_plan_j57 (N : Nat) (x2 : Int32) (S : SS) : Option (SS × Int32) := if x2 = 0 then
  (some (S, gi S 29 11))
  else
  (some (S, gi S 29 10))
def fX11_plan (N : Nat) (S : SS) (p1 : Int32) (p2 : Int32) : Option (SS × Int32) := bd (fX5_isThere N S 3) fun r2 =>
  if r2 = 0 then
  (some (S, (-1)))
  else
  (if p1 < 1 then
  (some (S, (-1)))
  else
  (if 2 < p1 then
  (some (S, (-1)))
  else
  (if p2 < 0 then
  (some (S, (-1)))
  else
  (if p2 ≤ 1 then
  (if p1 = 1 then
  (bd (fX0_findTry N S 18) fun S12 =>
  fX11_plan_j57 N p2 S12)
  else
  (bd (fX0_findTwoTries N S) fun S10 =>
  fX11_plan_j57 N p2 S10))
  else
  (some (S, (-1)))))))
set_option maxHeartbeats 4000000 in
set_option maxRecDepth 100000 in
theorem kX11_plan {l : Launch} {D : va_G} {dA : Nat → ClassId} {ad : Nat → Nat} {t1 t2 : Nat} {N : Nat} {S T : SS} {o : Nat → Int64} {p1 : Int32} {p2 : Int32} {r : Int32} {S' : SS} (hR : fX11_plan N S p1 p2 = some (S', r)) : KI l D dA ad t1 t2 yX11_plan cX11_plan 3 .int { frames := 7, cells := 0, slots := 0, locals := 173 } [.ref (ad 0), .int p1, .int p2] S T o r S' T := by
  intro sz
  refine en_ (plainFor_of_name (by decide)) (Nat.le_of_ble_eq_true rfl) ?_
  intro p ev s m args below meth c QQ hQ hsz X hr hlk w ls hl
  have hx := X.1
  have hb := X.2.1
  have J57 : ∀ (x2 : Int32) (S : SS), fX11_plan_j57 N x2 S = some (S', r) → WAT p l ev ({ frames := 7, cells := 0, slots := 0, locals := 173 } : Room) s m args below meth c QQ 3 D dA ad t1 t2 S T o 57 [(0, .ref (ad 0)), (2, .int x2)] [] := by
    intro x2 S hR H locs ls w hl
    unfold fX11_plan_j57 at hR
    refine lv_iload_n hx hb dX11_plan_57 rfl (lv_at hl 1 rfl) ?_
    refine lv_if_ne (tgt := 71) hx hb dX11_plan_58 (by decide) (fun c1 => ?_) (fun c1 => ?_)
    · rw [if_neg c1] at hR
      refine lv_aload_n hx hb dX11_plan_71 rfl (lv_at hl 0 rfl) ?_
      refine gX11_advice X w lfX11_76 dX11_plan_72 ?_
      refine gX0_best X w lfX11_288 dX11_plan_75 ?_
      rw [hQ]
      exact rt_i X hr hlk w hsz rfl (lf2 hR).1 rfl (lf2 hR).2 dX11_plan_78
    · rw [if_pos c1] at hR
      refine lv_aload_n hx hb dX11_plan_61 rfl (lv_at hl 0 rfl) ?_
      refine gX11_advice X w lfX11_76 dX11_plan_62 ?_
      refine gX0_bestRow X w lfX11_285 dX11_plan_65 ?_
      refine lv_goto (tgt := 78) hx hb dX11_plan_68 (by decide) ?_
      rw [hQ]
      exact rt_i X hr hlk w hsz rfl (lf2 hR).1 rfl (lf2 hR).2 dX11_plan_78
  have hl : lv_has ls 3 [(0, .ref (ad 0)), (1, .int p1), (2, .int p2)] := hl
  unfold fX11_plan at hR
  refine lv_aload_n hx hb dX11_plan_0 rfl (lv_at hl 0 rfl) ?_
  refine gX11_mill X w lfX11_19 dX11_plan_1 ?_
  obtain ⟨r2, h1, hR⟩ := bd_e hR
  refine cVi (k := 3) (As := []) (rest := []) X hl.1 w okX5_isThere (obX5 (Or.inl rfl)) rfl lmX11_155 (kX5_isThere (Or.inl rfl) h1) ⟨Nat.le_of_ble_eq_true rfl, Nat.le_of_ble_eq_true rfl⟩ ⟨rfl, rfl⟩ ⟨Nat.zero_le _, Nat.zero_le _⟩ rfl rfl (Nat.le_of_ble_eq_true rfl) dX11_plan_4 (fun H locs zr2 w => ?_)
  refine lv_if_eq (tgt := 29) hx hb dX11_plan_7 (by decide) (fun c3 => ?_) (fun c3 => ?_)
  · rw [if_pos c3] at hR
    refine lv_iconst (v := -1) hx hb dX11_plan_29 (by decide) ?_
    rw [hQ]
    exact rt_i X hr hlk w hsz rfl (lf2 hR).1 rfl (lf2 hR).2 dX11_plan_30
  · rw [if_neg c3] at hR
    refine lv_iload_n hx hb dX11_plan_10 rfl (lv_at hl 1 rfl) ?_
    refine lv_iconst (v := 1) hx hb dX11_plan_11 (by decide) ?_
    refine lv_icmp_lt (tgt := 29) hx hb dX11_plan_12 (by decide) (fun c4 => ?_) (fun c4 => ?_)
    · rw [if_pos c4] at hR
      refine lv_iconst (v := -1) hx hb dX11_plan_29 (by decide) ?_
      rw [hQ]
      exact rt_i X hr hlk w hsz rfl (lf2 hR).1 rfl (lf2 hR).2 dX11_plan_30
    · rw [if_neg c4] at hR
      refine lv_iload_n hx hb dX11_plan_15 rfl (lv_at hl 1 rfl) ?_
      refine lv_iconst (v := 2) hx hb dX11_plan_16 (by decide) ?_
      refine lv_icmp_gt (tgt := 29) hx hb dX11_plan_17 (by decide) (fun c5 => ?_) (fun c5 => ?_)
      · rw [if_pos c5] at hR
        refine lv_iconst (v := -1) hx hb dX11_plan_29 (by decide) ?_
        rw [hQ]
        exact rt_i X hr hlk w hsz rfl (lf2 hR).1 rfl (lf2 hR).2 dX11_plan_30
      · rw [if_neg c5] at hR
        refine lv_iload_n hx hb dX11_plan_20 rfl (lv_at hl 2 rfl) ?_
        refine lv_if_lt (tgt := 29) hx hb dX11_plan_21 (by decide) (fun c6 => ?_) (fun c6 => ?_)
        · rw [if_pos c6] at hR
          refine lv_iconst (v := -1) hx hb dX11_plan_29 (by decide) ?_
          rw [hQ]
          exact rt_i X hr hlk w hsz rfl (lf2 hR).1 rfl (lf2 hR).2 dX11_plan_30
        · rw [if_neg c6] at hR
          refine lv_iload_n hx hb dX11_plan_24 rfl (lv_at hl 2 rfl) ?_
          refine lv_iconst (v := 1) hx hb dX11_plan_25 (by decide) ?_
          refine lv_icmp_le (tgt := 31) hx hb dX11_plan_26 (by decide) (fun c7 => ?_) (fun c7 => ?_)
          · rw [if_pos c7] at hR
            refine lv_iload_n hx hb dX11_plan_31 rfl (lv_at hl 1 rfl) ?_
            refine lv_iconst (v := 1) hx hb dX11_plan_32 (by decide) ?_
            refine lv_icmp_ne (tgt := 50) hx hb dX11_plan_33 (by decide) (fun c8 => ?_) (fun c8 => ?_)
            · rw [if_neg c8] at hR
              refine lv_aload_n hx hb dX11_plan_50 rfl (lv_at hl 0 rfl) ?_
              refine gX11_advice X w lfX11_76 dX11_plan_51 ?_
              obtain ⟨S10, h9, hR⟩ := bd_e hR
              refine cVv (k := 29) (As := []) (rest := []) X hl.1 w okX0_findTwoTries obX0 rfl lmX11_297 (kX0_findTwoTries h9) ⟨Nat.le_of_ble_eq_true rfl, Nat.le_of_ble_eq_true rfl⟩ ⟨rfl, rfl⟩ ⟨Nat.zero_le _, Nat.zero_le _⟩ rfl rfl (Nat.le_of_ble_eq_true rfl) dX11_plan_54 (fun H locs w => ?_)
              exact J57 p2 S10 hR _ _ _ w (lv_sub hl [0, 2] rfl)
            · rw [if_pos c8] at hR
              refine lv_aload_n hx hb dX11_plan_36 rfl (lv_at hl 0 rfl) ?_
              refine gX11_advice X w lfX11_76 dX11_plan_37 ?_
              refine lv_aload_n hx hb dX11_plan_40 rfl (lv_at hl 0 rfl) ?_
              refine gX11_now X w lfX11_51 dX11_plan_41 ?_
              obtain ⟨S12, h11, hR⟩ := bd_e hR
              refine cVv (k := 29) (As := [.ref (ad 18)]) (rest := []) X hl.1 w okX0_findTry obX0 rfl lmX11_294 (kX0_findTry (Or.inl rfl) h11) ⟨Nat.le_of_ble_eq_true rfl, Nat.le_of_ble_eq_true rfl⟩ ⟨rfl, rfl⟩ ⟨Nat.zero_le _, Nat.zero_le _⟩ rfl rfl (Nat.le_of_ble_eq_true rfl) dX11_plan_44 (fun H locs w => ?_)
              refine lv_goto (tgt := 57) hx hb dX11_plan_47 (by decide) ?_
              exact J57 p2 S12 hR _ _ _ w (lv_sub hl [0, 2] rfl)
          · rw [if_neg c7] at hR
            refine lv_iconst (v := -1) hx hb dX11_plan_29 (by decide) ?_
            rw [hQ]
            exact rt_i X hr hlk w hsz rfl (lf2 hR).1 rfl (lf2 hR).2 dX11_plan_30
/- LooseEnds.blankets(I)I -/
def fX11_blankets (N : Nat) (S : SS) (p1 : Int32) : Option (SS × Int32) := bd (fX5_isThere N S 3) fun r2 =>
  if r2 = 0 then
  (some (S, (-1)))
  else
  (if p1 < 1 then
  (some (S, (-1)))
  else
  (if p1 ≤ 140 then
  (b2 (fX0_fewestBlankets N S p1) fun S8 r7 =>
  some (S8, r7))
  else
  (some (S, (-1)))))
set_option maxHeartbeats 4000000 in
set_option maxRecDepth 100000 in
theorem kX11_blankets {l : Launch} {D : va_G} {dA : Nat → ClassId} {ad : Nat → Nat} {t1 t2 : Nat} {N : Nat} {S T : SS} {o : Nat → Int64} {p1 : Int32} {r : Int32} {S' : SS} (hR : fX11_blankets N S p1 = some (S', r)) : KI l D dA ad t1 t2 yX11_blankets cX11_blankets 2 .int { frames := 3, cells := 0, slots := 0, locals := 71 } [.ref (ad 0), .int p1] S T o r S' T := by
  intro sz
  refine en_ (plainFor_of_name (by decide)) (Nat.le_of_ble_eq_true rfl) ?_
  intro p ev s m args below meth c QQ hQ hsz X hr hlk w ls hl
  have hx := X.1
  have hb := X.2.1
  have hl : lv_has ls 2 [(0, .ref (ad 0)), (1, .int p1)] := hl
  unfold fX11_blankets at hR
  refine lv_aload_n hx hb dX11_blankets_0 rfl (lv_at hl 0 rfl) ?_
  refine gX11_mill X w lfX11_19 dX11_blankets_1 ?_
  obtain ⟨r2, h1, hR⟩ := bd_e hR
  refine cVi (k := 3) (As := []) (rest := []) X hl.1 w okX5_isThere (obX5 (Or.inl rfl)) rfl lmX11_155 (kX5_isThere (Or.inl rfl) h1) ⟨Nat.le_of_ble_eq_true rfl, Nat.le_of_ble_eq_true rfl⟩ ⟨rfl, rfl⟩ ⟨Nat.zero_le _, Nat.zero_le _⟩ rfl rfl (Nat.le_of_ble_eq_true rfl) dX11_blankets_4 (fun H locs zr2 w => ?_)
  refine lv_if_eq (tgt := 22) hx hb dX11_blankets_7 (by decide) (fun c3 => ?_) (fun c3 => ?_)
  · rw [if_pos c3] at hR
    refine lv_iconst (v := -1) hx hb dX11_blankets_22 (by decide) ?_
    rw [hQ]
    exact rt_i X hr hlk w hsz rfl (lf2 hR).1 rfl (lf2 hR).2 dX11_blankets_23
  · rw [if_neg c3] at hR
    refine lv_iload_n hx hb dX11_blankets_10 rfl (lv_at hl 1 rfl) ?_
    refine lv_iconst (v := 1) hx hb dX11_blankets_11 (by decide) ?_
    refine lv_icmp_lt (tgt := 22) hx hb dX11_blankets_12 (by decide) (fun c4 => ?_) (fun c4 => ?_)
    · rw [if_pos c4] at hR
      refine lv_iconst (v := -1) hx hb dX11_blankets_22 (by decide) ?_
      rw [hQ]
      exact rt_i X hr hlk w hsz rfl (lf2 hR).1 rfl (lf2 hR).2 dX11_blankets_23
    · rw [if_neg c4] at hR
      refine lv_iload_n hx hb dX11_blankets_15 rfl (lv_at hl 1 rfl) ?_
      refine lv_sipush (v := 140) hx hb dX11_blankets_16 (by decide) ?_
      refine lv_icmp_le (tgt := 24) hx hb dX11_blankets_19 (by decide) (fun c5 => ?_) (fun c5 => ?_)
      · rw [if_pos c5] at hR
        refine lv_aload_n hx hb dX11_blankets_24 rfl (lv_at hl 0 rfl) ?_
        refine gX11_advice X w lfX11_76 dX11_blankets_25 ?_
        refine lv_iload_n hx hb dX11_blankets_28 rfl (lv_at hl 1 rfl) ?_
        obtain ⟨S8, r7, h6, hR⟩ := b2_e hR
        refine cVi (k := 29) (As := [.int p1]) (rest := []) X hl.1 w okX0_fewestBlankets obX0 rfl lmX11_300 (kX0_fewestBlankets h6) ⟨Nat.le_of_ble_eq_true rfl, Nat.le_of_ble_eq_true rfl⟩ ⟨rfl, rfl⟩ ⟨Nat.zero_le _, Nat.zero_le _⟩ rfl rfl (Nat.le_of_ble_eq_true rfl) dX11_blankets_29 (fun H locs zr7 w => ?_)
        rw [hQ]
        exact rt_i X hr hlk w hsz rfl (lf2 hR).1 rfl (lf2 hR).2 dX11_blankets_32
      · rw [if_neg c5] at hR
        refine lv_iconst (v := -1) hx hb dX11_blankets_22 (by decide) ?_
        rw [hQ]
        exact rt_i X hr hlk w hsz rfl (lf2 hR).1 rfl (lf2 hR).2 dX11_blankets_23
/- LooseEnds.seen(IIZ)I -/
def fX11_seen (N : Nat) (S : SS) (p1 : Int32) (p2 : Int32) (p3 : Int32) : Option (SS × Int32) := bd (fX5_has N S 3 p1) fun r2 =>
  if r2 = 0 then
  (some (S, (-1)))
  else
  (bd (fX5_has N S 3 p2) fun r5 =>
  if r5 = 0 then
  (some (S, (-1)))
  else
  (if p1 = p2 then
  (some (S, (-1)))
  else
  (b2 (fX7_add N S p1 p2 p3) fun S10 r9 =>
  some (S10, r9))))
set_option maxHeartbeats 4000000 in
set_option maxRecDepth 100000 in
theorem kX11_seen {l : Launch} {D : va_G} {dA : Nat → ClassId} {ad : Nat → Nat} {t1 t2 : Nat} {N : Nat} {S T : SS} {o : Nat → Int64} {p1 : Int32} {p2 : Int32} {p3 : Int32} {r : Int32} {S' : SS} (hR : fX11_seen N S p1 p2 p3 = some (S', r)) : KI l D dA ad t1 t2 yX11_seen cX11_seen 4 .int { frames := 1, cells := 0, slots := 0, locals := 23 } [.ref (ad 0), .int p1, .int p2, .int p3] S T o r S' T := by
  intro sz
  refine en_ (plainFor_of_name (by decide)) (Nat.le_of_ble_eq_true rfl) ?_
  intro p ev s m args below meth c QQ hQ hsz X hr hlk w ls hl
  have hx := X.1
  have hb := X.2.1
  have hl : lv_has ls 4 [(0, .ref (ad 0)), (1, .int p1), (2, .int p2), (3, .int p3)] := hl
  unfold fX11_seen at hR
  refine lv_aload_n hx hb dX11_seen_0 rfl (lv_at hl 0 rfl) ?_
  refine gX11_mill X w lfX11_19 dX11_seen_1 ?_
  refine lv_iload_n hx hb dX11_seen_4 rfl (lv_at hl 1 rfl) ?_
  obtain ⟨r2, h1, hR⟩ := bd_e hR
  refine cVi (k := 3) (As := [.int p1]) (rest := []) X hl.1 w okX5_has (obX5 (Or.inl rfl)) rfl lmX11_171 (kX5_has (Or.inl rfl) h1) ⟨Nat.le_of_ble_eq_true rfl, Nat.le_of_ble_eq_true rfl⟩ ⟨rfl, rfl⟩ ⟨Nat.zero_le _, Nat.zero_le _⟩ rfl rfl (Nat.le_of_ble_eq_true rfl) dX11_seen_5 (fun H locs zr2 w => ?_)
  refine lv_if_eq (tgt := 27) hx hb dX11_seen_8 (by decide) (fun c3 => ?_) (fun c3 => ?_)
  · rw [if_pos c3] at hR
    refine lv_iconst (v := -1) hx hb dX11_seen_27 (by decide) ?_
    rw [hQ]
    exact rt_i X hr hlk w hsz rfl (lf2 hR).1 rfl (lf2 hR).2 dX11_seen_28
  · rw [if_neg c3] at hR
    refine lv_aload_n hx hb dX11_seen_11 rfl (lv_at hl 0 rfl) ?_
    refine gX11_mill X w lfX11_19 dX11_seen_12 ?_
    refine lv_iload_n hx hb dX11_seen_15 rfl (lv_at hl 2 rfl) ?_
    obtain ⟨r5, h4, hR⟩ := bd_e hR
    refine cVi (k := 3) (As := [.int p2]) (rest := []) X hl.1 w okX5_has (obX5 (Or.inl rfl)) rfl lmX11_171 (kX5_has (Or.inl rfl) h4) ⟨Nat.le_of_ble_eq_true rfl, Nat.le_of_ble_eq_true rfl⟩ ⟨rfl, rfl⟩ ⟨Nat.zero_le _, Nat.zero_le _⟩ rfl rfl (Nat.le_of_ble_eq_true rfl) dX11_seen_16 (fun H locs zr5 w => ?_)
    refine lv_if_eq (tgt := 27) hx hb dX11_seen_19 (by decide) (fun c6 => ?_) (fun c6 => ?_)
    · rw [if_pos c6] at hR
      refine lv_iconst (v := -1) hx hb dX11_seen_27 (by decide) ?_
      rw [hQ]
      exact rt_i X hr hlk w hsz rfl (lf2 hR).1 rfl (lf2 hR).2 dX11_seen_28
    · rw [if_neg c6] at hR
      refine lv_iload_n hx hb dX11_seen_22 rfl (lv_at hl 1 rfl) ?_
      refine lv_iload_n hx hb dX11_seen_23 rfl (lv_at hl 2 rfl) ?_
      refine lv_icmp_ne (tgt := 29) hx hb dX11_seen_24 (by decide) (fun c7 => ?_) (fun c7 => ?_)
      · rw [if_neg c7] at hR
        refine lv_aload_n hx hb dX11_seen_29 rfl (lv_at hl 0 rfl) ?_
        refine gX11_sightings X w lfX11_85 dX11_seen_30 ?_
        refine lv_iload_n hx hb dX11_seen_33 rfl (lv_at hl 1 rfl) ?_
        refine lv_iload_n hx hb dX11_seen_34 rfl (lv_at hl 2 rfl) ?_
        refine lv_iload_n hx hb dX11_seen_35 rfl (lv_at hl 3 rfl) ?_
        obtain ⟨S10, r9, h8, hR⟩ := b2_e hR
        refine cVi (k := 40) (As := [.int p1, .int p2, .int p3]) (rest := []) X hl.1 w okX7_add obX7 rfl lmX11_303 (kX7_add h8) ⟨Nat.le_of_ble_eq_true rfl, Nat.le_of_ble_eq_true rfl⟩ ⟨rfl, rfl⟩ ⟨Nat.zero_le _, Nat.zero_le _⟩ rfl rfl (Nat.le_of_ble_eq_true rfl) dX11_seen_36 (fun H locs zr9 w => ?_)
        rw [hQ]
        exact rt_i X hr hlk w hsz rfl (lf2 hR).1 rfl (lf2 hR).2 dX11_seen_39
      · rw [if_pos c7] at hR
        refine lv_iconst (v := -1) hx hb dX11_seen_27 (by decide) ?_
        rw [hQ]
        exact rt_i X hr hlk w hsz rfl (lf2 hR).1 rfl (lf2 hR).2 dX11_seen_28
/- LooseEnds.bitAt(II)I -/
def fX11_bitAt_l4 (N : Nat) : Nat → Int32 → Int32 → Int32 → Option (Int32)
  | 0, _, _, _ => none
  | n + 1, x0, x2, x3 => if 6 < x3 then
  (some (-1))
  else
  (if x2 < 0 then
  (some (-1))
  else
  (if ((sr x0 x3) &&& 1) = 1 then
  (if x2 = 0 then
  (some x3)
  else
  (lt (x2 + (-1)) fun v6 =>
  lt (x3 + 1) fun v7 =>
  fX11_bitAt_l4 N n x0 v6 v7))
  else
  (lt (x3 + 1) fun v4 =>
  fX11_bitAt_l4 N n x0 x2 v4)))
def fX11_bitAt (N : Nat) (p0 : Int32) (p1 : Int32) : Option (Int32) := fX11_bitAt_l4 N N p0 p1 0
set_option maxHeartbeats 4000000 in
set_option maxRecDepth 100000 in
theorem kX11_bitAt {l : Launch} {D : va_G} {dA : Nat → ClassId} {ad : Nat → Nat} {t1 t2 : Nat} {N : Nat} {S T : SS} {o : Nat → Int64} {p0 : Int32} {p1 : Int32} {r : Int32} (hR : fX11_bitAt N p0 p1 = some r) : KI l D dA ad t1 t2 yX11_bitAt cX11_bitAt 4 .int { frames := 0, cells := 0, slots := 0, locals := 0 } [.int p0, .int p1] S T o r S T := by
  intro sz
  refine en_ (plainFor_of_name (by decide)) (Nat.le_of_ble_eq_true rfl) ?_
  intro p ev s m args below meth c QQ hQ hsz X hr hlk w ls hl
  have hx := X.1
  have hb := X.2.1
  have L4 : ∀ (n : Nat), ∀ (x0 : Int32) (x2 : Int32) (x3 : Int32), fX11_bitAt_l4 N n x0 x2 x3 = some r → WAT p l ev ({ frames := 0, cells := 0, slots := 0, locals := 0 } : Room) s m args below meth c QQ 4 D dA ad t1 t2 S T o 4 [(0, .int x0), (2, .int x2), (3, .int x3)] [] := by
    intro n
    induction n with
    | zero =>
      intro x0 x2 x3 hR
      exact nomatch hR
    | succ n ih =>
      intro x0 x2 x3 hR H locs ls w hl
      rw [fX11_bitAt_l4] at hR
      refine lv_iload_n hx hb dX11_bitAt_4 rfl (lv_at hl 2 rfl) ?_
      refine lv_bipush (v := 6) hx hb dX11_bitAt_5 (by decide) ?_
      refine lv_icmp_gt (tgt := 38) hx hb dX11_bitAt_7 (by decide) (fun c1 => ?_) (fun c1 => ?_)
      · rw [if_pos c1] at hR
        refine lv_iconst (v := -1) hx hb dX11_bitAt_38 (by decide) ?_
        rw [hQ]
        exact rt_i X hr hlk w hsz rfl rfl rfl (lf1 hR) dX11_bitAt_39
      · rw [if_neg c1] at hR
        refine lv_iload_n hx hb dX11_bitAt_10 rfl (lv_at hl 1 rfl) ?_
        refine lv_if_lt (tgt := 38) hx hb dX11_bitAt_11 (by decide) (fun c2 => ?_) (fun c2 => ?_)
        · rw [if_pos c2] at hR
          refine lv_iconst (v := -1) hx hb dX11_bitAt_38 (by decide) ?_
          rw [hQ]
          exact rt_i X hr hlk w hsz rfl rfl rfl (lf1 hR) dX11_bitAt_39
        · rw [if_neg c2] at hR
          refine lv_iload_n hx hb dX11_bitAt_14 rfl (lv_at hl 0 rfl) ?_
          refine lv_iload_n hx hb dX11_bitAt_15 rfl (lv_at hl 2 rfl) ?_
          refine lv_ishr hx hb dX11_bitAt_16 ?_
          refine lv_iconst (v := 1) hx hb dX11_bitAt_17 (by decide) ?_
          refine lv_iand hx hb dX11_bitAt_18 ?_
          refine lv_iconst (v := 1) hx hb dX11_bitAt_19 (by decide) ?_
          refine lv_icmp_ne (tgt := 32) hx hb dX11_bitAt_20 (by decide) (fun c3 => ?_) (fun c3 => ?_)
          · rw [if_neg c3] at hR
            obtain ⟨v4, ev4, hR⟩ := lt_e hR
            refine lv_iinc (v := v4) (lv' := [(3, .int v4), (0, .int x0), (2, .int x2)]) hx hb dX11_bitAt_32 hl (k := 2) rfl (by rw [ev4]; rfl) (by decide) rfl (fun ls hl => ?_)
            refine lv_goto (tgt := 4) hx hb dX11_bitAt_35 (by decide) ?_
            exact ih x0 x2 v4 hR _ _ _ w (lv_sub hl [1, 2, 0] rfl)
          · rw [if_pos c3] at hR
            refine lv_iload_n hx hb dX11_bitAt_23 rfl (lv_at hl 1 rfl) ?_
            refine lv_if_ne (tgt := 29) hx hb dX11_bitAt_24 (by decide) (fun c5 => ?_) (fun c5 => ?_)
            · rw [if_neg c5] at hR
              obtain ⟨v6, ev6, hR⟩ := lt_e hR
              refine lv_iinc (v := v6) (lv' := [(2, .int v6), (0, .int x0), (3, .int x3)]) hx hb dX11_bitAt_29 hl (k := 1) rfl (by rw [ev6]; rfl) (by decide) rfl (fun ls hl => ?_)
              obtain ⟨v7, ev7, hR⟩ := lt_e hR
              refine lv_iinc (v := v7) (lv' := [(3, .int v7), (2, .int v6), (0, .int x0)]) hx hb dX11_bitAt_32 hl (k := 2) rfl (by rw [ev7]; rfl) (by decide) rfl (fun ls hl => ?_)
              refine lv_goto (tgt := 4) hx hb dX11_bitAt_35 (by decide) ?_
              exact ih x0 v6 v7 hR _ _ _ w (lv_sub hl [2, 1, 0] rfl)
            · rw [if_pos c5] at hR
              refine lv_iload_n hx hb dX11_bitAt_27 rfl (lv_at hl 2 rfl) ?_
              rw [hQ]
              exact rt_i X hr hlk w hsz rfl rfl rfl (lf1 hR) dX11_bitAt_28
  have hl : lv_has ls 4 [(0, .int p0), (1, .int p1)] := hl
  unfold fX11_bitAt at hR
  refine lv_iload_n hx hb dX11_bitAt_0 rfl (lv_at hl 1 rfl) ?_
  refine lv_istore_n (lv' := [(2, .int p1), (0, .int p0), (1, .int p1)]) hx hb dX11_bitAt_1 rfl hl (by decide) rfl (fun ls hl => ?_)
  refine lv_iconst (v := 0) hx hb dX11_bitAt_2 (by decide) ?_
  refine lv_istore_n (lv' := [(3, .int 0), (2, .int p1), (0, .int p0), (1, .int p1)]) hx hb dX11_bitAt_3 rfl hl (by decide) rfl (fun ls hl => ?_)
  exact L4 N p0 p1 0 hR _ _ _ w (lv_sub hl [2, 1, 0] rfl)
/- LooseEnds.plies(II)I -/
def fX11_plies (N : Nat) (S : SS) (p1 : Int32) (p2 : Int32) : Option (SS × Int32) := bd (fX5_has N S 3 p1) fun r2 =>
  if r2 = 0 then
  (some (S, (-1)))
  else
  (b2 (fX7_fittingPlies N S p1) fun S6 r5 =>
  if p2 = (-1) then
  (bd (fJ6_bitCount_0f7a4 N r5) fun r11 =>
  some (S6, r11))
  else
  (bd (fX11_bitAt N r5 p2) fun r9 =>
  some (S6, r9)))
set_option maxHeartbeats 4000000 in
set_option maxRecDepth 100000 in
theorem kX11_plies {l : Launch} {D : va_G} {dA : Nat → ClassId} {ad : Nat → Nat} {t1 t2 : Nat} {N : Nat} {S T : SS} {o : Nat → Int64} {p1 : Int32} {p2 : Int32} {r : Int32} {S' : SS} (hR : fX11_plies N S p1 p2 = some (S', r)) : KI l D dA ad t1 t2 yX11_plies cX11_plies 4 .int { frames := 6, cells := 0, slots := 0, locals := 147 } [.ref (ad 0), .int p1, .int p2] S T o r S' T := by
  intro sz
  refine en_ (plainFor_of_name (by decide)) (Nat.le_of_ble_eq_true rfl) ?_
  intro p ev s m args below meth c QQ hQ hsz X hr hlk w ls hl
  have hx := X.1
  have hb := X.2.1
  have hl : lv_has ls 4 [(0, .ref (ad 0)), (1, .int p1), (2, .int p2)] := hl
  unfold fX11_plies at hR
  refine lv_aload_n hx hb dX11_plies_0 rfl (lv_at hl 0 rfl) ?_
  refine gX11_mill X w lfX11_19 dX11_plies_1 ?_
  refine lv_iload_n hx hb dX11_plies_4 rfl (lv_at hl 1 rfl) ?_
  obtain ⟨r2, h1, hR⟩ := bd_e hR
  refine cVi (k := 3) (As := [.int p1]) (rest := []) X hl.1 w okX5_has (obX5 (Or.inl rfl)) rfl lmX11_171 (kX5_has (Or.inl rfl) h1) ⟨Nat.le_of_ble_eq_true rfl, Nat.le_of_ble_eq_true rfl⟩ ⟨rfl, rfl⟩ ⟨Nat.zero_le _, Nat.zero_le _⟩ rfl rfl (Nat.le_of_ble_eq_true rfl) dX11_plies_5 (fun H locs zr2 w => ?_)
  refine lv_if_ne (tgt := 13) hx hb dX11_plies_8 (by decide) (fun c3 => ?_) (fun c3 => ?_)
  · rw [if_neg c3] at hR
    refine lv_aload_n hx hb dX11_plies_13 rfl (lv_at hl 0 rfl) ?_
    refine gX11_sightings X w lfX11_85 dX11_plies_14 ?_
    refine lv_iload_n hx hb dX11_plies_17 rfl (lv_at hl 1 rfl) ?_
    obtain ⟨S6, r5, h4, hR⟩ := b2_e hR
    refine cVi (k := 40) (As := [.int p1]) (rest := []) X hl.1 w okX7_fittingPlies obX7 rfl lmX11_306 (kX7_fittingPlies h4) ⟨Nat.le_of_ble_eq_true rfl, Nat.le_of_ble_eq_true rfl⟩ ⟨rfl, rfl⟩ ⟨Nat.zero_le _, Nat.zero_le _⟩ rfl rfl (Nat.le_of_ble_eq_true rfl) dX11_plies_18 (fun H locs zr5 w => ?_)
    refine lv_istore_n (lv' := [(3, .int r5), (0, .ref (ad 0)), (1, .int p1), (2, .int p2)]) hx hb dX11_plies_21 rfl hl (by decide) rfl (fun ls hl => ?_)
    refine lv_iload_n hx hb dX11_plies_22 rfl (lv_at hl 3 rfl) ?_
    refine lv_iconst (v := -1) hx hb dX11_plies_23 (by decide) ?_
    refine lv_icmp_ne (tgt := 34) hx hb dX11_plies_24 (by decide) (fun c7 => ?_) (fun c7 => ?_)
    · rw [if_neg c7] at hR
      refine lv_iload_n hx hb dX11_plies_34 rfl (lv_at hl 0 rfl) ?_
      refine lv_iload_n hx hb dX11_plies_35 rfl (lv_at hl 3 rfl) ?_
      obtain ⟨r9, h8, hR⟩ := bd_e hR
      refine cSi (As := [.int r5, .int p2]) (rest := []) X hl.1 w okX11_bitAt lmX11_314 (kX11_bitAt h8) ⟨Nat.le_of_ble_eq_true rfl, Nat.le_of_ble_eq_true rfl⟩ ⟨rfl, rfl⟩ ⟨Nat.zero_le _, Nat.zero_le _⟩ rfl rfl (Nat.le_of_ble_eq_true rfl) dX11_plies_36 (fun H locs zr9 w => ?_)
      rw [hQ]
      exact rt_i X hr hlk w hsz rfl (lf2 hR).1 rfl (lf2 hR).2 dX11_plies_39
    · rw [if_pos c7] at hR
      refine lv_iload_n hx hb dX11_plies_27 rfl (lv_at hl 0 rfl) ?_
      obtain ⟨r11, h10, hR⟩ := bd_e hR
      refine cSi (As := [.int r5]) (rest := []) X hl.1 w okJ6_bitCount_0f7a4 lmX11_309 (kJ6_bitCount_0f7a4 h10) ⟨Nat.le_of_ble_eq_true rfl, Nat.le_of_ble_eq_true rfl⟩ ⟨rfl, rfl⟩ ⟨Nat.zero_le _, Nat.zero_le _⟩ rfl rfl (Nat.le_of_ble_eq_true rfl) dX11_plies_28 (fun H locs zr11 w => ?_)
      refine lv_goto (tgt := 39) hx hb dX11_plies_31 (by decide) ?_
      rw [hQ]
      exact rt_i X hr hlk w hsz rfl (lf2 hR).1 rfl (lf2 hR).2 dX11_plies_39
  · rw [if_pos c3] at hR
    refine lv_iconst (v := -1) hx hb dX11_plies_11 (by decide) ?_
    rw [hQ]
    exact rt_i X hr hlk w hsz rfl (lf2 hR).1 rfl (lf2 hR).2 dX11_plies_12
/- LooseEnds.ask(I)I -/
def fX11_ask (N : Nat) (S : SS) (p1 : Int32) : Option (SS × Int32) := bd (fX5_has N S 3 p1) fun r2 =>
  if r2 = 0 then
  (some (S, (-1)))
  else
  (b2 (fX7_fittingPlies N S p1) fun S6 r5 =>
  b2 (fX7_bestToTry N S6 p1 r5) fun S9 r8 =>
  some (S9, r8))
set_option maxHeartbeats 4000000 in
set_option maxRecDepth 100000 in
theorem kX11_ask {l : Launch} {D : va_G} {dA : Nat → ClassId} {ad : Nat → Nat} {t1 t2 : Nat} {N : Nat} {S T : SS} {o : Nat → Int64} {p1 : Int32} {r : Int32} {S' : SS} (hR : fX11_ask N S p1 = some (S', r)) : KI l D dA ad t1 t2 yX11_ask cX11_ask 2 .int { frames := 6, cells := 0, slots := 0, locals := 151 } [.ref (ad 0), .int p1] S T o r S' T := by
  intro sz
  refine en_ (plainFor_of_name (by decide)) (Nat.le_of_ble_eq_true rfl) ?_
  intro p ev s m args below meth c QQ hQ hsz X hr hlk w ls hl
  have hx := X.1
  have hb := X.2.1
  have hl : lv_has ls 2 [(0, .ref (ad 0)), (1, .int p1)] := hl
  unfold fX11_ask at hR
  refine lv_aload_n hx hb dX11_ask_0 rfl (lv_at hl 0 rfl) ?_
  refine gX11_mill X w lfX11_19 dX11_ask_1 ?_
  refine lv_iload_n hx hb dX11_ask_4 rfl (lv_at hl 1 rfl) ?_
  obtain ⟨r2, h1, hR⟩ := bd_e hR
  refine cVi (k := 3) (As := [.int p1]) (rest := []) X hl.1 w okX5_has (obX5 (Or.inl rfl)) rfl lmX11_171 (kX5_has (Or.inl rfl) h1) ⟨Nat.le_of_ble_eq_true rfl, Nat.le_of_ble_eq_true rfl⟩ ⟨rfl, rfl⟩ ⟨Nat.zero_le _, Nat.zero_le _⟩ rfl rfl (Nat.le_of_ble_eq_true rfl) dX11_ask_5 (fun H locs zr2 w => ?_)
  refine lv_if_eq (tgt := 30) hx hb dX11_ask_8 (by decide) (fun c3 => ?_) (fun c3 => ?_)
  · rw [if_pos c3] at hR
    refine lv_iconst (v := -1) hx hb dX11_ask_30 (by decide) ?_
    rw [hQ]
    exact rt_i X hr hlk w hsz rfl (lf2 hR).1 rfl (lf2 hR).2 dX11_ask_31
  · rw [if_neg c3] at hR
    refine lv_aload_n hx hb dX11_ask_11 rfl (lv_at hl 0 rfl) ?_
    refine gX11_sightings X w lfX11_85 dX11_ask_12 ?_
    refine lv_iload_n hx hb dX11_ask_15 rfl (lv_at hl 1 rfl) ?_
    refine lv_aload_n hx hb dX11_ask_16 rfl (lv_at hl 0 rfl) ?_
    refine gX11_sightings X w lfX11_85 dX11_ask_17 ?_
    refine lv_iload_n hx hb dX11_ask_20 rfl (lv_at hl 1 rfl) ?_
    obtain ⟨S6, r5, h4, hR⟩ := b2_e hR
    refine cVi (k := 40) (As := [.int p1]) (rest := [.int p1, .ref (ad 40)]) X hl.1 w okX7_fittingPlies obX7 rfl lmX11_306 (kX7_fittingPlies h4) ⟨Nat.le_of_ble_eq_true rfl, Nat.le_of_ble_eq_true rfl⟩ ⟨rfl, rfl⟩ ⟨Nat.zero_le _, Nat.zero_le _⟩ rfl rfl (Nat.le_of_ble_eq_true rfl) dX11_ask_21 (fun H locs zr5 w => ?_)
    obtain ⟨S9, r8, h7, hR⟩ := b2_e hR
    refine cVi (k := 40) (As := [.int p1, .int r5]) (rest := []) X hl.1 w okX7_bestToTry obX7 rfl lmX11_317 (kX7_bestToTry h7) ⟨Nat.le_of_ble_eq_true rfl, Nat.le_of_ble_eq_true rfl⟩ ⟨rfl, rfl⟩ ⟨Nat.zero_le _, Nat.zero_le _⟩ rfl rfl (Nat.le_of_ble_eq_true rfl) dX11_ask_24 (fun H locs zr8 w => ?_)
    refine lv_goto (tgt := 31) hx hb dX11_ask_27 (by decide) ?_
    rw [hQ]
    exact rt_i X hr hlk w hsz rfl (lf2 hR).1 rfl (lf2 hR).2 dX11_ask_31
/- LooseEnds.game(IIIII)I -/
def fX11_game (N : Nat) (S : SS) (p1 : Int32) (p2 : Int32) (p3 : Int32) (p4 : Int32) (p5 : Int32) : Option (SS × Int32) := bd (fX5_has N S 3 p1) fun r2 =>
  if r2 = 0 then
  (some (S, (-1000000)))
  else
  (bd (fX5_has N S 3 p2) fun r5 =>
  if r5 = 0 then
  (some (S, (-1000000)))
  else
  (if p1 = p2 then
  (some (S, (-1000000)))
  else
  (if p5 < 0 then
  (some (S, (-1000000)))
  else
  (if p5 ≤ 1 then
  (bd (fX1_isMove N p3) fun r11 =>
  if r11 = 0 then
  (some (S, (-1000000)))
  else
  (bd (fX1_isMove N p4) fun r14 =>
  if r14 = 0 then
  (some (S, (-1000000)))
  else
  (if p5 = 0 then
  (b2 (fX1_has N S p1 p2 p3 p4) fun S22 r21 =>
  some (S22, r21))
  else
  (b2 (fX1_has N S p2 p1 p4 p3) fun S19 r18 =>
  some (S19, r18)))))
  else
  (some (S, (-1000000)))))))
set_option maxHeartbeats 4000000 in
set_option maxRecDepth 100000 in
theorem kX11_game {l : Launch} {D : va_G} {dA : Nat → ClassId} {ad : Nat → Nat} {t1 t2 : Nat} {N : Nat} {S T : SS} {o : Nat → Int64} {p1 : Int32} {p2 : Int32} {p3 : Int32} {p4 : Int32} {p5 : Int32} {r : Int32} {S' : SS} (hR : fX11_game N S p1 p2 p3 p4 p5 = some (S', r)) : KI l D dA ad t1 t2 yX11_game cX11_game 6 .int { frames := 4, cells := 0, slots := 0, locals := 104 } [.ref (ad 0), .int p1, .int p2, .int p3, .int p4, .int p5] S T o r S' T := by
  intro sz
  refine en_ (plainFor_of_name (by decide)) (Nat.le_of_ble_eq_true rfl) ?_
  intro p ev s m args below meth c QQ hQ hsz X hr hlk w ls hl
  have hx := X.1
  have hb := X.2.1
  have hl : lv_has ls 6 [(0, .ref (ad 0)), (1, .int p1), (2, .int p2), (3, .int p3), (4, .int p4), (5, .int p5)] := hl
  unfold fX11_game at hR
  refine lv_aload_n hx hb dX11_game_0 rfl (lv_at hl 0 rfl) ?_
  refine gX11_mill X w lfX11_19 dX11_game_1 ?_
  refine lv_iload_n hx hb dX11_game_4 rfl (lv_at hl 1 rfl) ?_
  obtain ⟨r2, h1, hR⟩ := bd_e hR
  refine cVi (k := 3) (As := [.int p1]) (rest := []) X hl.1 w okX5_has (obX5 (Or.inl rfl)) rfl lmX11_171 (kX5_has (Or.inl rfl) h1) ⟨Nat.le_of_ble_eq_true rfl, Nat.le_of_ble_eq_true rfl⟩ ⟨rfl, rfl⟩ ⟨Nat.zero_le _, Nat.zero_le _⟩ rfl rfl (Nat.le_of_ble_eq_true rfl) dX11_game_5 (fun H locs zr2 w => ?_)
  refine lv_if_eq (tgt := 38) hx hb dX11_game_8 (by decide) (fun c3 => ?_) (fun c3 => ?_)
  · rw [if_pos c3] at hR
    refine lv_ldcw X.1 X.2.1 X.2.2.2.1 (X.2.2.2.2 _ lcX11_320) dX11_game_38 ?_
    rw [hQ]
    exact rt_i X hr hlk w hsz rfl (lf2 hR).1 rfl (lf2 hR).2 dX11_game_41
  · rw [if_neg c3] at hR
    refine lv_aload_n hx hb dX11_game_11 rfl (lv_at hl 0 rfl) ?_
    refine gX11_mill X w lfX11_19 dX11_game_12 ?_
    refine lv_iload_n hx hb dX11_game_15 rfl (lv_at hl 2 rfl) ?_
    obtain ⟨r5, h4, hR⟩ := bd_e hR
    refine cVi (k := 3) (As := [.int p2]) (rest := []) X hl.1 w okX5_has (obX5 (Or.inl rfl)) rfl lmX11_171 (kX5_has (Or.inl rfl) h4) ⟨Nat.le_of_ble_eq_true rfl, Nat.le_of_ble_eq_true rfl⟩ ⟨rfl, rfl⟩ ⟨Nat.zero_le _, Nat.zero_le _⟩ rfl rfl (Nat.le_of_ble_eq_true rfl) dX11_game_16 (fun H locs zr5 w => ?_)
    refine lv_if_eq (tgt := 38) hx hb dX11_game_19 (by decide) (fun c6 => ?_) (fun c6 => ?_)
    · rw [if_pos c6] at hR
      refine lv_ldcw X.1 X.2.1 X.2.2.2.1 (X.2.2.2.2 _ lcX11_320) dX11_game_38 ?_
      rw [hQ]
      exact rt_i X hr hlk w hsz rfl (lf2 hR).1 rfl (lf2 hR).2 dX11_game_41
    · rw [if_neg c6] at hR
      refine lv_iload_n hx hb dX11_game_22 rfl (lv_at hl 1 rfl) ?_
      refine lv_iload_n hx hb dX11_game_23 rfl (lv_at hl 2 rfl) ?_
      refine lv_icmp_eq (tgt := 38) hx hb dX11_game_24 (by decide) (fun c7 => ?_) (fun c7 => ?_)
      · rw [if_pos c7] at hR
        refine lv_ldcw X.1 X.2.1 X.2.2.2.1 (X.2.2.2.2 _ lcX11_320) dX11_game_38 ?_
        rw [hQ]
        exact rt_i X hr hlk w hsz rfl (lf2 hR).1 rfl (lf2 hR).2 dX11_game_41
      · rw [if_neg c7] at hR
        refine lv_iload hx hb dX11_game_27 (lv_at hl 5 rfl) ?_
        refine lv_if_lt (tgt := 38) hx hb dX11_game_29 (by decide) (fun c8 => ?_) (fun c8 => ?_)
        · rw [if_pos c8] at hR
          refine lv_ldcw X.1 X.2.1 X.2.2.2.1 (X.2.2.2.2 _ lcX11_320) dX11_game_38 ?_
          rw [hQ]
          exact rt_i X hr hlk w hsz rfl (lf2 hR).1 rfl (lf2 hR).2 dX11_game_41
        · rw [if_neg c8] at hR
          refine lv_iload hx hb dX11_game_32 (lv_at hl 5 rfl) ?_
          refine lv_iconst (v := 1) hx hb dX11_game_34 (by decide) ?_
          refine lv_icmp_le (tgt := 42) hx hb dX11_game_35 (by decide) (fun c9 => ?_) (fun c9 => ?_)
          · rw [if_pos c9] at hR
            refine lv_iload_n hx hb dX11_game_42 rfl (lv_at hl 3 rfl) ?_
            obtain ⟨r11, h10, hR⟩ := bd_e hR
            refine cSi (As := [.int p3]) (rest := []) X hl.1 w okX1_isMove lmX11_321 (kX1_isMove h10) ⟨Nat.le_of_ble_eq_true rfl, Nat.le_of_ble_eq_true rfl⟩ ⟨rfl, rfl⟩ ⟨Nat.zero_le _, Nat.zero_le _⟩ rfl rfl (Nat.le_of_ble_eq_true rfl) dX11_game_43 (fun H locs zr11 w => ?_)
            refine lv_if_eq (tgt := 57) hx hb dX11_game_46 (by decide) (fun c12 => ?_) (fun c12 => ?_)
            · rw [if_pos c12] at hR
              refine lv_ldcw X.1 X.2.1 X.2.2.2.1 (X.2.2.2.2 _ lcX11_320) dX11_game_57 ?_
              rw [hQ]
              exact rt_i X hr hlk w hsz rfl (lf2 hR).1 rfl (lf2 hR).2 dX11_game_60
            · rw [if_neg c12] at hR
              refine lv_iload hx hb dX11_game_49 (lv_at hl 4 rfl) ?_
              obtain ⟨r14, h13, hR⟩ := bd_e hR
              refine cSi (As := [.int p4]) (rest := []) X hl.1 w okX1_isMove lmX11_321 (kX1_isMove h13) ⟨Nat.le_of_ble_eq_true rfl, Nat.le_of_ble_eq_true rfl⟩ ⟨rfl, rfl⟩ ⟨Nat.zero_le _, Nat.zero_le _⟩ rfl rfl (Nat.le_of_ble_eq_true rfl) dX11_game_51 (fun H locs zr14 w => ?_)
              refine lv_if_ne (tgt := 61) hx hb dX11_game_54 (by decide) (fun c15 => ?_) (fun c15 => ?_)
              · rw [if_neg c15] at hR
                refine lv_iload hx hb dX11_game_61 (lv_at hl 5 rfl) ?_
                refine lv_if_ne (tgt := 81) hx hb dX11_game_63 (by decide) (fun c16 => ?_) (fun c16 => ?_)
                · rw [if_neg c16] at hR
                  refine lv_aload_n hx hb dX11_game_81 rfl (lv_at hl 0 rfl) ?_
                  refine gX11_duel X w lfX11_94 dX11_game_82 ?_
                  refine lv_iload_n hx hb dX11_game_85 rfl (lv_at hl 2 rfl) ?_
                  refine lv_iload_n hx hb dX11_game_86 rfl (lv_at hl 1 rfl) ?_
                  refine lv_iload hx hb dX11_game_87 (lv_at hl 4 rfl) ?_
                  refine lv_iload_n hx hb dX11_game_89 rfl (lv_at hl 3 rfl) ?_
                  obtain ⟨S19, r18, h17, hR⟩ := b2_e hR
                  refine cVi (k := 44) (As := [.int p2, .int p1, .int p4, .int p3]) (rest := []) X hl.1 w okX1_has obX1 rfl lmX11_324 (kX1_has h17) ⟨Nat.le_of_ble_eq_true rfl, Nat.le_of_ble_eq_true rfl⟩ ⟨rfl, rfl⟩ ⟨Nat.zero_le _, Nat.zero_le _⟩ rfl rfl (Nat.le_of_ble_eq_true rfl) dX11_game_90 (fun H locs zr18 w => ?_)
                  rw [hQ]
                  exact rt_i X hr hlk w hsz rfl (lf2 hR).1 rfl (lf2 hR).2 dX11_game_93
                · rw [if_pos c16] at hR
                  refine lv_aload_n hx hb dX11_game_66 rfl (lv_at hl 0 rfl) ?_
                  refine gX11_duel X w lfX11_94 dX11_game_67 ?_
                  refine lv_iload_n hx hb dX11_game_70 rfl (lv_at hl 1 rfl) ?_
                  refine lv_iload_n hx hb dX11_game_71 rfl (lv_at hl 2 rfl) ?_
                  refine lv_iload_n hx hb dX11_game_72 rfl (lv_at hl 3 rfl) ?_
                  refine lv_iload hx hb dX11_game_73 (lv_at hl 4 rfl) ?_
                  obtain ⟨S22, r21, h20, hR⟩ := b2_e hR
                  refine cVi (k := 44) (As := [.int p1, .int p2, .int p3, .int p4]) (rest := []) X hl.1 w okX1_has obX1 rfl lmX11_324 (kX1_has h20) ⟨Nat.le_of_ble_eq_true rfl, Nat.le_of_ble_eq_true rfl⟩ ⟨rfl, rfl⟩ ⟨Nat.zero_le _, Nat.zero_le _⟩ rfl rfl (Nat.le_of_ble_eq_true rfl) dX11_game_75 (fun H locs zr21 w => ?_)
                  refine lv_goto (tgt := 93) hx hb dX11_game_78 (by decide) ?_
                  rw [hQ]
                  exact rt_i X hr hlk w hsz rfl (lf2 hR).1 rfl (lf2 hR).2 dX11_game_93
              · rw [if_pos c15] at hR
                refine lv_ldcw X.1 X.2.1 X.2.2.2.1 (X.2.2.2.2 _ lcX11_320) dX11_game_57 ?_
                rw [hQ]
                exact rt_i X hr hlk w hsz rfl (lf2 hR).1 rfl (lf2 hR).2 dX11_game_60
          · rw [if_neg c9] at hR
            refine lv_ldcw X.1 X.2.1 X.2.2.2.1 (X.2.2.2.2 _ lcX11_320) dX11_game_38 ?_
            rw [hQ]
            exact rt_i X hr hlk w hsz rfl (lf2 hR).1 rfl (lf2 hR).2 dX11_game_41
/- LooseEnds.rests(III)I -/
def fX11_rests (N : Nat) (S : SS) (p1 : Int32) (p2 : Int32) (p3 : Int32) : Option (SS × Int32) := bd (fX5_has N S 3 p1) fun r2 =>
  if r2 = 0 then
  (some (S, (-1)))
  else
  (bd (fX5_has N S 3 p2) fun r5 =>
  if r5 = 0 then
  (some (S, (-1)))
  else
  (if p1 = p2 then
  (some (S, (-1)))
  else
  (bd (fX1_play N S p1 p2) fun S9 =>
  if p3 = (-1) then
  (bd (fX1_countRests N S9) fun r14 =>
  some (S9, r14))
  else
  (bd (fX1_restAt N S9 p3) fun r12 =>
  some (S9, r12)))))
set_option maxHeartbeats 4000000 in
set_option maxRecDepth 100000 in
theorem kX11_rests {l : Launch} {D : va_G} {dA : Nat → ClassId} {ad : Nat → Nat} {t1 t2 : Nat} {N : Nat} {S T : SS} {o : Nat → Int64} {p1 : Int32} {p2 : Int32} {p3 : Int32} {r : Int32} {S' : SS} (hR : fX11_rests N S p1 p2 p3 = some (S', r)) : KI l D dA ad t1 t2 yX11_rests cX11_rests 4 .int { frames := 5, cells := 0, slots := 0, locals := 128 } [.ref (ad 0), .int p1, .int p2, .int p3] S T o r S' T := by
  intro sz
  refine en_ (plainFor_of_name (by decide)) (Nat.le_of_ble_eq_true rfl) ?_
  intro p ev s m args below meth c QQ hQ hsz X hr hlk w ls hl
  have hx := X.1
  have hb := X.2.1
  have hl : lv_has ls 4 [(0, .ref (ad 0)), (1, .int p1), (2, .int p2), (3, .int p3)] := hl
  unfold fX11_rests at hR
  refine lv_aload_n hx hb dX11_rests_0 rfl (lv_at hl 0 rfl) ?_
  refine gX11_mill X w lfX11_19 dX11_rests_1 ?_
  refine lv_iload_n hx hb dX11_rests_4 rfl (lv_at hl 1 rfl) ?_
  obtain ⟨r2, h1, hR⟩ := bd_e hR
  refine cVi (k := 3) (As := [.int p1]) (rest := []) X hl.1 w okX5_has (obX5 (Or.inl rfl)) rfl lmX11_171 (kX5_has (Or.inl rfl) h1) ⟨Nat.le_of_ble_eq_true rfl, Nat.le_of_ble_eq_true rfl⟩ ⟨rfl, rfl⟩ ⟨Nat.zero_le _, Nat.zero_le _⟩ rfl rfl (Nat.le_of_ble_eq_true rfl) dX11_rests_5 (fun H locs zr2 w => ?_)
  refine lv_if_eq (tgt := 27) hx hb dX11_rests_8 (by decide) (fun c3 => ?_) (fun c3 => ?_)
  · rw [if_pos c3] at hR
    refine lv_iconst (v := -1) hx hb dX11_rests_27 (by decide) ?_
    rw [hQ]
    exact rt_i X hr hlk w hsz rfl (lf2 hR).1 rfl (lf2 hR).2 dX11_rests_28
  · rw [if_neg c3] at hR
    refine lv_aload_n hx hb dX11_rests_11 rfl (lv_at hl 0 rfl) ?_
    refine gX11_mill X w lfX11_19 dX11_rests_12 ?_
    refine lv_iload_n hx hb dX11_rests_15 rfl (lv_at hl 2 rfl) ?_
    obtain ⟨r5, h4, hR⟩ := bd_e hR
    refine cVi (k := 3) (As := [.int p2]) (rest := []) X hl.1 w okX5_has (obX5 (Or.inl rfl)) rfl lmX11_171 (kX5_has (Or.inl rfl) h4) ⟨Nat.le_of_ble_eq_true rfl, Nat.le_of_ble_eq_true rfl⟩ ⟨rfl, rfl⟩ ⟨Nat.zero_le _, Nat.zero_le _⟩ rfl rfl (Nat.le_of_ble_eq_true rfl) dX11_rests_16 (fun H locs zr5 w => ?_)
    refine lv_if_eq (tgt := 27) hx hb dX11_rests_19 (by decide) (fun c6 => ?_) (fun c6 => ?_)
    · rw [if_pos c6] at hR
      refine lv_iconst (v := -1) hx hb dX11_rests_27 (by decide) ?_
      rw [hQ]
      exact rt_i X hr hlk w hsz rfl (lf2 hR).1 rfl (lf2 hR).2 dX11_rests_28
    · rw [if_neg c6] at hR
      refine lv_iload_n hx hb dX11_rests_22 rfl (lv_at hl 1 rfl) ?_
      refine lv_iload_n hx hb dX11_rests_23 rfl (lv_at hl 2 rfl) ?_
      refine lv_icmp_ne (tgt := 29) hx hb dX11_rests_24 (by decide) (fun c7 => ?_) (fun c7 => ?_)
      · rw [if_neg c7] at hR
        refine lv_aload_n hx hb dX11_rests_29 rfl (lv_at hl 0 rfl) ?_
        refine gX11_duel X w lfX11_94 dX11_rests_30 ?_
        refine lv_iload_n hx hb dX11_rests_33 rfl (lv_at hl 1 rfl) ?_
        refine lv_iload_n hx hb dX11_rests_34 rfl (lv_at hl 2 rfl) ?_
        obtain ⟨S9, h8, hR⟩ := bd_e hR
        refine cVv (k := 44) (As := [.int p1, .int p2]) (rest := []) X hl.1 w okX1_play obX1 rfl lmX11_327 (kX1_play h8) ⟨Nat.le_of_ble_eq_true rfl, Nat.le_of_ble_eq_true rfl⟩ ⟨rfl, rfl⟩ ⟨Nat.zero_le _, Nat.zero_le _⟩ rfl rfl (Nat.le_of_ble_eq_true rfl) dX11_rests_35 (fun H locs w => ?_)
        refine lv_iload_n hx hb dX11_rests_38 rfl (lv_at hl 3 rfl) ?_
        refine lv_iconst (v := -1) hx hb dX11_rests_39 (by decide) ?_
        refine lv_icmp_ne (tgt := 53) hx hb dX11_rests_40 (by decide) (fun c10 => ?_) (fun c10 => ?_)
        · rw [if_neg c10] at hR
          refine lv_aload_n hx hb dX11_rests_53 rfl (lv_at hl 0 rfl) ?_
          refine gX11_duel X w lfX11_94 dX11_rests_54 ?_
          refine lv_iload_n hx hb dX11_rests_57 rfl (lv_at hl 3 rfl) ?_
          obtain ⟨r12, h11, hR⟩ := bd_e hR
          refine cVi (k := 44) (As := [.int p3]) (rest := []) X hl.1 w okX1_restAt obX1 rfl lmX11_334 (kX1_restAt h11) ⟨Nat.le_of_ble_eq_true rfl, Nat.le_of_ble_eq_true rfl⟩ ⟨rfl, rfl⟩ ⟨Nat.zero_le _, Nat.zero_le _⟩ rfl rfl (Nat.le_of_ble_eq_true rfl) dX11_rests_58 (fun H locs zr12 w => ?_)
          rw [hQ]
          exact rt_i X hr hlk w hsz rfl (lf2 hR).1 rfl (lf2 hR).2 dX11_rests_61
        · rw [if_pos c10] at hR
          refine lv_aload_n hx hb dX11_rests_43 rfl (lv_at hl 0 rfl) ?_
          refine gX11_duel X w lfX11_94 dX11_rests_44 ?_
          obtain ⟨r14, h13, hR⟩ := bd_e hR
          refine cVi (k := 44) (As := []) (rest := []) X hl.1 w okX1_countRests obX1 rfl lmX11_331 (kX1_countRests h13) ⟨Nat.le_of_ble_eq_true rfl, Nat.le_of_ble_eq_true rfl⟩ ⟨rfl, rfl⟩ ⟨Nat.zero_le _, Nat.zero_le _⟩ rfl rfl (Nat.le_of_ble_eq_true rfl) dX11_rests_47 (fun H locs zr14 w => ?_)
          refine lv_goto (tgt := 61) hx hb dX11_rests_50 (by decide) ?_
          rw [hQ]
          exact rt_i X hr hlk w hsz rfl (lf2 hR).1 rfl (lf2 hR).2 dX11_rests_61
      · rw [if_pos c7] at hR
        refine lv_iconst (v := -1) hx hb dX11_rests_27 (by decide) ?_
        rw [hQ]
        exact rt_i X hr hlk w hsz rfl (lf2 hR).1 rfl (lf2 hR).2 dX11_rests_28
/- LooseEnds.odds(II)I -/
def fX11_odds (N : Nat) (S : SS) (p1 : Int32) (p2 : Int32) : Option (SS × Int32) := bd (fX5_has N S 3 p1) fun r2 =>
  if r2 = 0 then
  (some (S, (-1)))
  else
  (if p2 < 0 then
  (some (S, (-1)))
  else
  (if p2 ≤ 100 then
  (b2 (fX0_knottedParts N S p1 p2) fun S8 r7 =>
  some (S8, r7))
  else
  (some (S, (-1)))))
set_option maxHeartbeats 4000000 in
set_option maxRecDepth 100000 in
theorem kX11_odds {l : Launch} {D : va_G} {dA : Nat → ClassId} {ad : Nat → Nat} {t1 t2 : Nat} {N : Nat} {S T : SS} {o : Nat → Int64} {p1 : Int32} {p2 : Int32} {r : Int32} {S' : SS} (hR : fX11_odds N S p1 p2 = some (S', r)) : KI l D dA ad t1 t2 yX11_odds cX11_odds 3 .int { frames := 5, cells := 0, slots := 0, locals := 127 } [.ref (ad 0), .int p1, .int p2] S T o r S' T := by
  intro sz
  refine en_ (plainFor_of_name (by decide)) (Nat.le_of_ble_eq_true rfl) ?_
  intro p ev s m args below meth c QQ hQ hsz X hr hlk w ls hl
  have hx := X.1
  have hb := X.2.1
  have hl : lv_has ls 3 [(0, .ref (ad 0)), (1, .int p1), (2, .int p2)] := hl
  unfold fX11_odds at hR
  refine lv_aload_n hx hb dX11_odds_0 rfl (lv_at hl 0 rfl) ?_
  refine gX11_mill X w lfX11_19 dX11_odds_1 ?_
  refine lv_iload_n hx hb dX11_odds_4 rfl (lv_at hl 1 rfl) ?_
  obtain ⟨r2, h1, hR⟩ := bd_e hR
  refine cVi (k := 3) (As := [.int p1]) (rest := []) X hl.1 w okX5_has (obX5 (Or.inl rfl)) rfl lmX11_171 (kX5_has (Or.inl rfl) h1) ⟨Nat.le_of_ble_eq_true rfl, Nat.le_of_ble_eq_true rfl⟩ ⟨rfl, rfl⟩ ⟨Nat.zero_le _, Nat.zero_le _⟩ rfl rfl (Nat.le_of_ble_eq_true rfl) dX11_odds_5 (fun H locs zr2 w => ?_)
  refine lv_if_eq (tgt := 21) hx hb dX11_odds_8 (by decide) (fun c3 => ?_) (fun c3 => ?_)
  · rw [if_pos c3] at hR
    refine lv_iconst (v := -1) hx hb dX11_odds_21 (by decide) ?_
    rw [hQ]
    exact rt_i X hr hlk w hsz rfl (lf2 hR).1 rfl (lf2 hR).2 dX11_odds_22
  · rw [if_neg c3] at hR
    refine lv_iload_n hx hb dX11_odds_11 rfl (lv_at hl 2 rfl) ?_
    refine lv_if_lt (tgt := 21) hx hb dX11_odds_12 (by decide) (fun c4 => ?_) (fun c4 => ?_)
    · rw [if_pos c4] at hR
      refine lv_iconst (v := -1) hx hb dX11_odds_21 (by decide) ?_
      rw [hQ]
      exact rt_i X hr hlk w hsz rfl (lf2 hR).1 rfl (lf2 hR).2 dX11_odds_22
    · rw [if_neg c4] at hR
      refine lv_iload_n hx hb dX11_odds_15 rfl (lv_at hl 2 rfl) ?_
      refine lv_bipush (v := 100) hx hb dX11_odds_16 (by decide) ?_
      refine lv_icmp_le (tgt := 23) hx hb dX11_odds_18 (by decide) (fun c5 => ?_) (fun c5 => ?_)
      · rw [if_pos c5] at hR
        refine lv_aload_n hx hb dX11_odds_23 rfl (lv_at hl 0 rfl) ?_
        refine gX11_advice X w lfX11_76 dX11_odds_24 ?_
        refine lv_iload_n hx hb dX11_odds_27 rfl (lv_at hl 1 rfl) ?_
        refine lv_iload_n hx hb dX11_odds_28 rfl (lv_at hl 2 rfl) ?_
        obtain ⟨S8, r7, h6, hR⟩ := b2_e hR
        refine cVi (k := 29) (As := [.int p1, .int p2]) (rest := []) X hl.1 w okX0_knottedParts obX0 rfl lmX11_337 (kX0_knottedParts h6) ⟨Nat.le_of_ble_eq_true rfl, Nat.le_of_ble_eq_true rfl⟩ ⟨rfl, rfl⟩ ⟨Nat.zero_le _, Nat.zero_le _⟩ rfl rfl (Nat.le_of_ble_eq_true rfl) dX11_odds_29 (fun H locs zr7 w => ?_)
        rw [hQ]
        exact rt_i X hr hlk w hsz rfl (lf2 hR).1 rfl (lf2 hR).2 dX11_odds_32
      · rw [if_neg c5] at hR
        refine lv_iconst (v := -1) hx hb dX11_odds_21 (by decide) ?_
        rw [hQ]
        exact rt_i X hr hlk w hsz rfl (lf2 hR).1 rfl (lf2 hR).2 dX11_odds_22
/- LooseEnds.story(II)I -/
def fX11_story (N : Nat) (S : SS) (p1 : Int32) (p2 : Int32) : Option (Int32) := bd (fX5_has N S 3 p1) fun r2 =>
  if r2 = 0 then
  (some (-1))
  else
  (if p2 = 0 then
  (bd (fX8_firstOf N S 18 p1) fun r6 =>
  some r6)
  else
  (if p2 = 1 then
  (bd (fX8_lastOf N S 18 p1) fun r8 =>
  some r8)
  else
  (if p2 = 2 then
  (bd (fX8_sizeOf N S 18 p1) fun r10 =>
  some r10)
  else
  (if p2 = 3 then
  (bd (fX8_taleOf N S 18 p1) fun r12 =>
  bd (fX8_lengthOf N S 18 r12) fun r14 =>
  some r14)
  else
  (if p2 = 4 then
  (bd (fX8_isSold N S 18 p1) fun r16 =>
  if r16 = 0 then
  (bd (fX8_neighboursOf N S 18 p1) fun r19 =>
  some r19)
  else
  (some 0))
  else
  (some (-1)))))))
set_option maxHeartbeats 4000000 in
set_option maxRecDepth 100000 in
theorem kX11_story {l : Launch} {D : va_G} {dA : Nat → ClassId} {ad : Nat → Nat} {t1 t2 : Nat} {N : Nat} {S T : SS} {o : Nat → Int64} {p1 : Int32} {p2 : Int32} {r : Int32} (hR : fX11_story N S p1 p2 = some r) : KI l D dA ad t1 t2 yX11_story cX11_story 3 .int { frames := 3, cells := 0, slots := 0, locals := 68 } [.ref (ad 0), .int p1, .int p2] S T o r S T := by
  intro sz
  refine en_ (plainFor_of_name (by decide)) (Nat.le_of_ble_eq_true rfl) ?_
  intro p ev s m args below meth c QQ hQ hsz X hr hlk w ls hl
  have hx := X.1
  have hb := X.2.1
  have hl : lv_has ls 3 [(0, .ref (ad 0)), (1, .int p1), (2, .int p2)] := hl
  unfold fX11_story at hR
  refine lv_aload_n hx hb dX11_story_0 rfl (lv_at hl 0 rfl) ?_
  refine gX11_mill X w lfX11_19 dX11_story_1 ?_
  refine lv_iload_n hx hb dX11_story_4 rfl (lv_at hl 1 rfl) ?_
  obtain ⟨r2, h1, hR⟩ := bd_e hR
  refine cVi (k := 3) (As := [.int p1]) (rest := []) X hl.1 w okX5_has (obX5 (Or.inl rfl)) rfl lmX11_171 (kX5_has (Or.inl rfl) h1) ⟨Nat.le_of_ble_eq_true rfl, Nat.le_of_ble_eq_true rfl⟩ ⟨rfl, rfl⟩ ⟨Nat.zero_le _, Nat.zero_le _⟩ rfl rfl (Nat.le_of_ble_eq_true rfl) dX11_story_5 (fun H locs zr2 w => ?_)
  refine lv_if_ne (tgt := 13) hx hb dX11_story_8 (by decide) (fun c3 => ?_) (fun c3 => ?_)
  · rw [if_neg c3] at hR
    refine lv_iload_n hx hb dX11_story_13 rfl (lv_at hl 2 rfl) ?_
    by_cases c4_0 : p2 = 0
    · rw [if_pos c4_0] at hR
      refine lv_tableIn (tgt := 48) hx hb dX11_story_14 (by rw [c4_0]; decide) (by rw [c4_0]; decide) (by rw [c4_0]; rfl) (by decide) ?_
      refine lv_aload_n hx hb dX11_story_48 rfl (lv_at hl 0 rfl) ?_
      refine gX11_now X w lfX11_51 dX11_story_49 ?_
      refine lv_iload_n hx hb dX11_story_52 rfl (lv_at hl 1 rfl) ?_
      obtain ⟨r6, h5, hR⟩ := bd_e hR
      refine cVi (k := 18) (As := [.int p1]) (rest := []) X hl.1 w okX8_firstOf (obX8 (Or.inl rfl)) rfl lmX11_340 (kX8_firstOf (Or.inl rfl) h5) ⟨Nat.le_of_ble_eq_true rfl, Nat.le_of_ble_eq_true rfl⟩ ⟨rfl, rfl⟩ ⟨Nat.zero_le _, Nat.zero_le _⟩ rfl rfl (Nat.le_of_ble_eq_true rfl) dX11_story_53 (fun H locs zr6 w => ?_)
      rw [hQ]
      exact rt_i X hr hlk w hsz rfl rfl rfl (lf1 hR) dX11_story_56
    · rw [if_neg c4_0] at hR
      by_cases c4_1 : p2 = 1
      · rw [if_pos c4_1] at hR
        refine lv_tableIn (tgt := 57) hx hb dX11_story_14 (by rw [c4_1]; decide) (by rw [c4_1]; decide) (by rw [c4_1]; rfl) (by decide) ?_
        refine lv_aload_n hx hb dX11_story_57 rfl (lv_at hl 0 rfl) ?_
        refine gX11_now X w lfX11_51 dX11_story_58 ?_
        refine lv_iload_n hx hb dX11_story_61 rfl (lv_at hl 1 rfl) ?_
        obtain ⟨r8, h7, hR⟩ := bd_e hR
        refine cVi (k := 18) (As := [.int p1]) (rest := []) X hl.1 w okX8_lastOf (obX8 (Or.inl rfl)) rfl lmX11_343 (kX8_lastOf (Or.inl rfl) h7) ⟨Nat.le_of_ble_eq_true rfl, Nat.le_of_ble_eq_true rfl⟩ ⟨rfl, rfl⟩ ⟨Nat.zero_le _, Nat.zero_le _⟩ rfl rfl (Nat.le_of_ble_eq_true rfl) dX11_story_62 (fun H locs zr8 w => ?_)
        rw [hQ]
        exact rt_i X hr hlk w hsz rfl rfl rfl (lf1 hR) dX11_story_65
      · rw [if_neg c4_1] at hR
        by_cases c4_2 : p2 = 2
        · rw [if_pos c4_2] at hR
          refine lv_tableIn (tgt := 66) hx hb dX11_story_14 (by rw [c4_2]; decide) (by rw [c4_2]; decide) (by rw [c4_2]; rfl) (by decide) ?_
          refine lv_aload_n hx hb dX11_story_66 rfl (lv_at hl 0 rfl) ?_
          refine gX11_now X w lfX11_51 dX11_story_67 ?_
          refine lv_iload_n hx hb dX11_story_70 rfl (lv_at hl 1 rfl) ?_
          obtain ⟨r10, h9, hR⟩ := bd_e hR
          refine cVi (k := 18) (As := [.int p1]) (rest := []) X hl.1 w okX8_sizeOf (obX8 (Or.inl rfl)) rfl lmX11_272 (kX8_sizeOf (Or.inl rfl) h9) ⟨Nat.le_of_ble_eq_true rfl, Nat.le_of_ble_eq_true rfl⟩ ⟨rfl, rfl⟩ ⟨Nat.zero_le _, Nat.zero_le _⟩ rfl rfl (Nat.le_of_ble_eq_true rfl) dX11_story_71 (fun H locs zr10 w => ?_)
          rw [hQ]
          exact rt_i X hr hlk w hsz rfl rfl rfl (lf1 hR) dX11_story_74
        · rw [if_neg c4_2] at hR
          by_cases c4_3 : p2 = 3
          · rw [if_pos c4_3] at hR
            refine lv_tableIn (tgt := 75) hx hb dX11_story_14 (by rw [c4_3]; decide) (by rw [c4_3]; decide) (by rw [c4_3]; rfl) (by decide) ?_
            refine lv_aload_n hx hb dX11_story_75 rfl (lv_at hl 0 rfl) ?_
            refine gX11_now X w lfX11_51 dX11_story_76 ?_
            refine lv_aload_n hx hb dX11_story_79 rfl (lv_at hl 0 rfl) ?_
            refine gX11_now X w lfX11_51 dX11_story_80 ?_
            refine lv_iload_n hx hb dX11_story_83 rfl (lv_at hl 1 rfl) ?_
            obtain ⟨r12, h11, hR⟩ := bd_e hR
            refine cVi (k := 18) (As := [.int p1]) (rest := [.ref (ad 18)]) X hl.1 w okX8_taleOf (obX8 (Or.inl rfl)) rfl lmX11_228 (kX8_taleOf (Or.inl rfl) h11) ⟨Nat.le_of_ble_eq_true rfl, Nat.le_of_ble_eq_true rfl⟩ ⟨rfl, rfl⟩ ⟨Nat.zero_le _, Nat.zero_le _⟩ rfl rfl (Nat.le_of_ble_eq_true rfl) dX11_story_84 (fun H locs zr12 w => ?_)
            obtain ⟨r14, h13, hR⟩ := bd_e hR
            refine cVi (k := 18) (As := [.int r12]) (rest := []) X hl.1 w okX8_lengthOf (obX8 (Or.inl rfl)) rfl lmX11_346 (kX8_lengthOf (Or.inl rfl) h13) ⟨Nat.le_of_ble_eq_true rfl, Nat.le_of_ble_eq_true rfl⟩ ⟨rfl, rfl⟩ ⟨Nat.zero_le _, Nat.zero_le _⟩ rfl rfl (Nat.le_of_ble_eq_true rfl) dX11_story_87 (fun H locs zr14 w => ?_)
            rw [hQ]
            exact rt_i X hr hlk w hsz rfl rfl rfl (lf1 hR) dX11_story_90
          · rw [if_neg c4_3] at hR
            by_cases c4_4 : p2 = 4
            · rw [if_pos c4_4] at hR
              refine lv_tableIn (tgt := 91) hx hb dX11_story_14 (by rw [c4_4]; decide) (by rw [c4_4]; decide) (by rw [c4_4]; rfl) (by decide) ?_
              refine lv_aload_n hx hb dX11_story_91 rfl (lv_at hl 0 rfl) ?_
              refine gX11_now X w lfX11_51 dX11_story_92 ?_
              refine lv_iload_n hx hb dX11_story_95 rfl (lv_at hl 1 rfl) ?_
              obtain ⟨r16, h15, hR⟩ := bd_e hR
              refine cVi (k := 18) (As := [.int p1]) (rest := []) X hl.1 w okX8_isSold (obX8 (Or.inl rfl)) rfl lmX11_191 (kX8_isSold (Or.inl rfl) h15) ⟨Nat.le_of_ble_eq_true rfl, Nat.le_of_ble_eq_true rfl⟩ ⟨rfl, rfl⟩ ⟨Nat.zero_le _, Nat.zero_le _⟩ rfl rfl (Nat.le_of_ble_eq_true rfl) dX11_story_96 (fun H locs zr16 w => ?_)
              refine lv_if_eq (tgt := 106) hx hb dX11_story_99 (by decide) (fun c17 => ?_) (fun c17 => ?_)
              · rw [if_pos c17] at hR
                refine lv_aload_n hx hb dX11_story_106 rfl (lv_at hl 0 rfl) ?_
                refine gX11_now X w lfX11_51 dX11_story_107 ?_
                refine lv_iload_n hx hb dX11_story_110 rfl (lv_at hl 1 rfl) ?_
                obtain ⟨r19, h18, hR⟩ := bd_e hR
                refine cVi (k := 18) (As := [.int p1]) (rest := []) X hl.1 w okX8_neighboursOf (obX8 (Or.inl rfl)) rfl lmX11_349 (kX8_neighboursOf (Or.inl rfl) h18) ⟨Nat.le_of_ble_eq_true rfl, Nat.le_of_ble_eq_true rfl⟩ ⟨rfl, rfl⟩ ⟨Nat.zero_le _, Nat.zero_le _⟩ rfl rfl (Nat.le_of_ble_eq_true rfl) dX11_story_111 (fun H locs zr19 w => ?_)
                rw [hQ]
                exact rt_i X hr hlk w hsz rfl rfl rfl (lf1 hR) dX11_story_114
              · rw [if_neg c17] at hR
                refine lv_iconst (v := 0) hx hb dX11_story_102 (by decide) ?_
                refine lv_goto (tgt := 114) hx hb dX11_story_103 (by decide) ?_
                rw [hQ]
                exact rt_i X hr hlk w hsz rfl rfl rfl (lf1 hR) dX11_story_114
            · rw [if_neg c4_4] at hR
              have hh0 := ne_int (n := 0) (by decide) c4_0
              have hh1 := ne_int (n := 1) (by decide) c4_1
              have hh2 := ne_int (n := 2) (by decide) c4_2
              have hh3 := ne_int (n := 3) (by decide) c4_3
              have hh4 := ne_int (n := 4) (by decide) c4_4
              refine lv_tableOut (tgt := 115) hx hb dX11_story_14 (by omega) (by decide) ?_
              refine lv_iconst (v := -1) hx hb dX11_story_115 (by decide) ?_
              rw [hQ]
              exact rt_i X hr hlk w hsz rfl rfl rfl (lf1 hR) dX11_story_116
  · rw [if_pos c3] at hR
    refine lv_iconst (v := -1) hx hb dX11_story_11 (by decide) ?_
    rw [hQ]
    exact rt_i X hr hlk w hsz rfl rfl rfl (lf1 hR) dX11_story_12
/- LooseEnds.shares(II)I -/
def fX11_shares (N : Nat) (S : SS) (p1 : Int32) (p2 : Int32) : Option (Int32) := bd (fX5_has N S 3 p1) fun r2 =>
  if r2 = 0 then
  (some (-1))
  else
  (if p2 < 0 then
  (some (-1))
  else
  (if p2 ≤ 999 then
  (bd (fX8_lengthOf N S 18 ((sl 1 (gi S 3 0)) - 1)) fun r7 =>
  if r7 ≤ 0 then
  (some (-1))
  else
  (ck (inb p1 7) <|
  ck (decide (¬ r7 = 0)) <|
  some ((p2 * (ga S 20 p1)) / r7)))
  else
  (some (-1))))
set_option maxHeartbeats 4000000 in
set_option maxRecDepth 100000 in
theorem kX11_shares {l : Launch} {D : va_G} {dA : Nat → ClassId} {ad : Nat → Nat} {t1 t2 : Nat} {N : Nat} {S T : SS} {o : Nat → Int64} {p1 : Int32} {p2 : Int32} {r : Int32} (hR : fX11_shares N S p1 p2 = some r) : KI l D dA ad t1 t2 yX11_shares cX11_shares 4 .int { frames := 1, cells := 0, slots := 0, locals := 23 } [.ref (ad 0), .int p1, .int p2] S T o r S T := by
  intro sz
  refine en_ (plainFor_of_name (by decide)) (Nat.le_of_ble_eq_true rfl) ?_
  intro p ev s m args below meth c QQ hQ hsz X hr hlk w ls hl
  have hx := X.1
  have hb := X.2.1
  have hl : lv_has ls 4 [(0, .ref (ad 0)), (1, .int p1), (2, .int p2)] := hl
  unfold fX11_shares at hR
  refine lv_aload_n hx hb dX11_shares_0 rfl (lv_at hl 0 rfl) ?_
  refine gX11_mill X w lfX11_19 dX11_shares_1 ?_
  refine lv_iload_n hx hb dX11_shares_4 rfl (lv_at hl 1 rfl) ?_
  obtain ⟨r2, h1, hR⟩ := bd_e hR
  refine cVi (k := 3) (As := [.int p1]) (rest := []) X hl.1 w okX5_has (obX5 (Or.inl rfl)) rfl lmX11_171 (kX5_has (Or.inl rfl) h1) ⟨Nat.le_of_ble_eq_true rfl, Nat.le_of_ble_eq_true rfl⟩ ⟨rfl, rfl⟩ ⟨Nat.zero_le _, Nat.zero_le _⟩ rfl rfl (Nat.le_of_ble_eq_true rfl) dX11_shares_5 (fun H locs zr2 w => ?_)
  refine lv_if_eq (tgt := 22) hx hb dX11_shares_8 (by decide) (fun c3 => ?_) (fun c3 => ?_)
  · rw [if_pos c3] at hR
    refine lv_iconst (v := -1) hx hb dX11_shares_22 (by decide) ?_
    rw [hQ]
    exact rt_i X hr hlk w hsz rfl rfl rfl (lf1 hR) dX11_shares_23
  · rw [if_neg c3] at hR
    refine lv_iload_n hx hb dX11_shares_11 rfl (lv_at hl 2 rfl) ?_
    refine lv_if_lt (tgt := 22) hx hb dX11_shares_12 (by decide) (fun c4 => ?_) (fun c4 => ?_)
    · rw [if_pos c4] at hR
      refine lv_iconst (v := -1) hx hb dX11_shares_22 (by decide) ?_
      rw [hQ]
      exact rt_i X hr hlk w hsz rfl rfl rfl (lf1 hR) dX11_shares_23
    · rw [if_neg c4] at hR
      refine lv_iload_n hx hb dX11_shares_15 rfl (lv_at hl 2 rfl) ?_
      refine lv_sipush (v := 999) hx hb dX11_shares_16 (by decide) ?_
      refine lv_icmp_le (tgt := 24) hx hb dX11_shares_19 (by decide) (fun c5 => ?_) (fun c5 => ?_)
      · rw [if_pos c5] at hR
        refine lv_aload_n hx hb dX11_shares_24 rfl (lv_at hl 0 rfl) ?_
        refine gX11_now X w lfX11_51 dX11_shares_25 ?_
        refine lv_iconst (v := 1) hx hb dX11_shares_28 (by decide) ?_
        refine lv_aload_n hx hb dX11_shares_29 rfl (lv_at hl 0 rfl) ?_
        refine gX11_mill X w lfX11_19 dX11_shares_30 ?_
        refine gX5_ends (Or.inl rfl) X w lfX11_143 dX11_shares_33 ?_
        refine lv_ishl hx hb dX11_shares_36 ?_
        refine lv_iconst (v := 1) hx hb dX11_shares_37 (by decide) ?_
        refine lv_isub hx hb dX11_shares_38 ?_
        obtain ⟨r7, h6, hR⟩ := bd_e hR
        refine cVi (k := 18) (As := [.int ((sl 1 (gi S 3 0)) - 1)]) (rest := []) X hl.1 w okX8_lengthOf (obX8 (Or.inl rfl)) rfl lmX11_346 (kX8_lengthOf (Or.inl rfl) h6) ⟨Nat.le_of_ble_eq_true rfl, Nat.le_of_ble_eq_true rfl⟩ ⟨rfl, rfl⟩ ⟨Nat.zero_le _, Nat.zero_le _⟩ rfl rfl (Nat.le_of_ble_eq_true rfl) dX11_shares_39 (fun H locs zr7 w => ?_)
        refine lv_istore_n (lv' := [(3, .int r7), (0, .ref (ad 0)), (1, .int p1), (2, .int p2)]) hx hb dX11_shares_42 rfl hl (by decide) rfl (fun ls hl => ?_)
        refine lv_iload_n hx hb dX11_shares_43 rfl (lv_at hl 0 rfl) ?_
        refine lv_if_le (tgt := 63) hx hb dX11_shares_44 (by decide) (fun c8 => ?_) (fun c8 => ?_)
        · rw [if_pos c8] at hR
          refine lv_iconst (v := -1) hx hb dX11_shares_63 (by decide) ?_
          rw [hQ]
          exact rt_i X hr hlk w hsz rfl rfl rfl (lf1 hR) dX11_shares_64
        · rw [if_neg c8] at hR
          refine lv_iload_n hx hb dX11_shares_47 rfl (lv_at hl 3 rfl) ?_
          refine lv_aload_n hx hb dX11_shares_48 rfl (lv_at hl 1 rfl) ?_
          refine gX11_now X w lfX11_51 dX11_shares_49 ?_
          refine gX8_lengths (Or.inl rfl) X w lfX11_188 dX11_shares_52 ?_
          refine lv_iload_n hx hb dX11_shares_55 rfl (lv_at hl 2 rfl) ?_
          obtain ⟨g9, hR⟩ := ck_e hR
          refine ialS (n := 7) rfl (by decide) X w rfl g9 dX11_shares_56 ?_
          refine lv_imul hx hb dX11_shares_57 ?_
          refine lv_iload_n hx hb dX11_shares_58 rfl (lv_at hl 0 rfl) ?_
          obtain ⟨g10, hR⟩ := ck_e hR
          refine lv_idiv hx hb dX11_shares_59 (of_decide_eq_true g10) ?_
          refine lv_goto (tgt := 64) hx hb dX11_shares_60 (by decide) ?_
          rw [hQ]
          exact rt_i X hr hlk w hsz rfl rfl rfl (lf1 hR) dX11_shares_64
      · rw [if_neg c5] at hR
        refine lv_iconst (v := -1) hx hb dX11_shares_22 (by decide) ?_
        rw [hQ]
        exact rt_i X hr hlk w hsz rfl rfl rfl (lf1 hR) dX11_shares_23
/- LooseEnds.highest([I)I -/
def fX11_highest_l4 (N : Nat) (q1 : Nat) : Nat → Int32 → Int32 → SS → Option (Int32)
  | 0, _, _, _ => none
  | n + 1, x2, x3, S => if (gi S 3 0) ≤ x3 then
  (some x2)
  else
  (if (Int32.ofNat (aln S.2.2 q1)) ≤ x3 then
  (some x2)
  else
  (ck (inb x3 (aln S.2.2 q1)) <|
  ck (inb x2 (aln S.2.2 q1)) <|
  if (ga S q1 x3) ≤ (ga S q1 x2) then
  (lt (x3 + 1) fun v6 =>
  fX11_highest_l4 N q1 n x2 v6 S)
  else
  (lt (x3 + 1) fun v7 =>
  fX11_highest_l4 N q1 n x3 v7 S)))
def fX11_highest (N : Nat) (S : SS) (q1 : Nat) : Option (Int32) := fX11_highest_l4 N q1 N 0 1 S
set_option maxHeartbeats 4000000 in
set_option maxRecDepth 100000 in
theorem kX11_highest {l : Launch} {D : va_G} {dA : Nat → ClassId} {ad : Nat → Nat} {t1 t2 : Nat} {N : Nat} {q1 : Nat} (hq1 : inK q1 = true ∧ q1 < 52) {S T : SS} {o : Nat → Int64} {r : Int32} (hR : fX11_highest N S q1 = some r) : KI l D dA ad t1 t2 yX11_highest cX11_highest 4 .int { frames := 0, cells := 0, slots := 0, locals := 0 } [.ref (ad 0), .ref (ad q1)] S T o r S T := by
  intro sz
  refine en_ (plainFor_of_name (by decide)) (Nat.le_of_ble_eq_true rfl) ?_
  intro p ev s m args below meth c QQ hQ hsz X hr hlk w ls hl
  have hx := X.1
  have hb := X.2.1
  have L4 : ∀ (n : Nat), ∀ (x2 : Int32) (x3 : Int32), fX11_highest_l4 N q1 n x2 x3 S = some r → WAT p l ev ({ frames := 0, cells := 0, slots := 0, locals := 0 } : Room) s m args below meth c QQ 4 D dA ad t1 t2 S T o 4 [(0, .ref (ad 0)), (1, .ref (ad q1)), (2, .int x2), (3, .int x3)] [] := by
    intro n
    induction n with
    | zero =>
      intro x2 x3 hR
      exact nomatch hR
    | succ n ih =>
      intro x2 x3 hR H locs ls w hl
      rw [fX11_highest_l4] at hR
      refine lv_iload_n hx hb dX11_highest_4 rfl (lv_at hl 3 rfl) ?_
      refine lv_aload_n hx hb dX11_highest_5 rfl (lv_at hl 0 rfl) ?_
      refine gX11_mill X w lfX11_19 dX11_highest_6 ?_
      refine gX5_ends (Or.inl rfl) X w lfX11_143 dX11_highest_9 ?_
      refine lv_icmp_ge (tgt := 38) hx hb dX11_highest_12 (by decide) (fun c1 => ?_) (fun c1 => ?_)
      · rw [if_pos c1] at hR
        refine lv_iload_n hx hb dX11_highest_38 rfl (lv_at hl 2 rfl) ?_
        rw [hQ]
        exact rt_i X hr hlk w hsz rfl rfl rfl (lf1 hR) dX11_highest_39
      · rw [if_neg c1] at hR
        refine lv_iload_n hx hb dX11_highest_15 rfl (lv_at hl 3 rfl) ?_
        refine lv_aload_n hx hb dX11_highest_16 rfl (lv_at hl 1 rfl) ?_
        refine lenS hq1.1 hq1.2 X w rfl dX11_highest_17 ?_
        refine lv_icmp_ge (tgt := 38) hx hb dX11_highest_18 (by decide) (fun c2 => ?_) (fun c2 => ?_)
        · rw [if_pos c2] at hR
          refine lv_iload_n hx hb dX11_highest_38 rfl (lv_at hl 2 rfl) ?_
          rw [hQ]
          exact rt_i X hr hlk w hsz rfl rfl rfl (lf1 hR) dX11_highest_39
        · rw [if_neg c2] at hR
          refine lv_aload_n hx hb dX11_highest_21 rfl (lv_at hl 1 rfl) ?_
          refine lv_iload_n hx hb dX11_highest_22 rfl (lv_at hl 3 rfl) ?_
          obtain ⟨g3, hR⟩ := ck_e hR
          refine ialS (n := (aln S.2.2 q1)) hq1.1 hq1.2 X w rfl g3 dX11_highest_23 ?_
          refine lv_aload_n hx hb dX11_highest_24 rfl (lv_at hl 1 rfl) ?_
          refine lv_iload_n hx hb dX11_highest_25 rfl (lv_at hl 2 rfl) ?_
          obtain ⟨g4, hR⟩ := ck_e hR
          refine ialS (n := (aln S.2.2 q1)) hq1.1 hq1.2 X w rfl g4 dX11_highest_26 ?_
          refine lv_icmp_le (tgt := 32) hx hb dX11_highest_27 (by decide) (fun c5 => ?_) (fun c5 => ?_)
          · rw [if_pos c5] at hR
            obtain ⟨v6, ev6, hR⟩ := lt_e hR
            refine lv_iinc (v := v6) (lv' := [(3, .int v6), (0, .ref (ad 0)), (1, .ref (ad q1)), (2, .int x2)]) hx hb dX11_highest_32 hl (k := 3) rfl (by rw [ev6]; rfl) (by decide) rfl (fun ls hl => ?_)
            refine lv_goto (tgt := 4) hx hb dX11_highest_35 (by decide) ?_
            exact ih x2 v6 hR _ _ _ w (lv_sub hl [1, 2, 3, 0] rfl)
          · rw [if_neg c5] at hR
            refine lv_iload_n hx hb dX11_highest_30 rfl (lv_at hl 3 rfl) ?_
            refine lv_istore_n (lv' := [(2, .int x3), (0, .ref (ad 0)), (1, .ref (ad q1)), (3, .int x3)]) hx hb dX11_highest_31 rfl hl (by decide) rfl (fun ls hl => ?_)
            obtain ⟨v7, ev7, hR⟩ := lt_e hR
            refine lv_iinc (v := v7) (lv' := [(3, .int v7), (2, .int x3), (0, .ref (ad 0)), (1, .ref (ad q1))]) hx hb dX11_highest_32 hl (k := 3) rfl (by rw [ev7]; rfl) (by decide) rfl (fun ls hl => ?_)
            refine lv_goto (tgt := 4) hx hb dX11_highest_35 (by decide) ?_
            exact ih x3 v7 hR _ _ _ w (lv_sub hl [2, 3, 1, 0] rfl)
  have hl : lv_has ls 4 [(0, .ref (ad 0)), (1, .ref (ad q1))] := hl
  unfold fX11_highest at hR
  refine lv_iconst (v := 0) hx hb dX11_highest_0 (by decide) ?_
  refine lv_istore_n (lv' := [(2, .int 0), (0, .ref (ad 0)), (1, .ref (ad q1))]) hx hb dX11_highest_1 rfl hl (by decide) rfl (fun ls hl => ?_)
  refine lv_iconst (v := 1) hx hb dX11_highest_2 (by decide) ?_
  refine lv_istore_n (lv' := [(3, .int 1), (2, .int 0), (0, .ref (ad 0)), (1, .ref (ad q1))]) hx hb dX11_highest_3 rfl hl (by decide) rfl (fun ls hl => ?_)
  exact L4 N 0 1 hR _ _ _ w (lv_sub hl [2, 3, 1, 0] rfl)
/- LooseEnds.most(I)I -/
def fX11_most (N : Nat) (S : SS) (p1 : Int32) : Option (SS × Int32) := bd (fX5_isThere N S 3) fun r2 =>
  if r2 = 0 then
  (some (S, (-1)))
  else
  (if p1 = 0 then
  (bd (fX11_highest N S 20) fun r6 =>
  some (S, r6))
  else
  (if p1 = 1 then
  (bd (fX11_highest N S 19) fun r8 =>
  some (S, r8))
  else
  (if p1 = 2 then
  (bd (fX11_highest N S 5) fun r10 =>
  some (S, r10))
  else
  (if p1 = 3 then
  (bd (fX8_looseBits N S 18) fun r12 =>
  some (S, r12))
  else
  (if p1 = 4 then
  (some (S, gi S 18 5))
  else
  (if p1 = 5 then
  (b2 (fX0_rackBits N S) fun S15 r14 =>
  some (S15, r14))
  else
  (if p1 = 6 then
  (bd (fX0_countTales N S) fun r17 =>
  some (S, r17))
  else
  (if p1 = 7 then
  (bd (fX0_priceOfTales N S) fun r19 =>
  some (S, r19))
  else
  (some (S, (-1)))))))))))
set_option maxHeartbeats 4000000 in
set_option maxRecDepth 100000 in
theorem kX11_most {l : Launch} {D : va_G} {dA : Nat → ClassId} {ad : Nat → Nat} {t1 t2 : Nat} {N : Nat} {S T : SS} {o : Nat → Int64} {p1 : Int32} {r : Int32} {S' : SS} (hR : fX11_most N S p1 = some (S', r)) : KI l D dA ad t1 t2 yX11_most cX11_most 2 .int { frames := 6, cells := 0, slots := 0, locals := 149 } [.ref (ad 0), .int p1] S T o r S' T := by
  intro sz
  refine en_ (plainFor_of_name (by decide)) (Nat.le_of_ble_eq_true rfl) ?_
  intro p ev s m args below meth c QQ hQ hsz X hr hlk w ls hl
  have hx := X.1
  have hb := X.2.1
  have hl : lv_has ls 2 [(0, .ref (ad 0)), (1, .int p1)] := hl
  unfold fX11_most at hR
  refine lv_aload_n hx hb dX11_most_0 rfl (lv_at hl 0 rfl) ?_
  refine gX11_mill X w lfX11_19 dX11_most_1 ?_
  obtain ⟨r2, h1, hR⟩ := bd_e hR
  refine cVi (k := 3) (As := []) (rest := []) X hl.1 w okX5_isThere (obX5 (Or.inl rfl)) rfl lmX11_155 (kX5_isThere (Or.inl rfl) h1) ⟨Nat.le_of_ble_eq_true rfl, Nat.le_of_ble_eq_true rfl⟩ ⟨rfl, rfl⟩ ⟨Nat.zero_le _, Nat.zero_le _⟩ rfl rfl (Nat.le_of_ble_eq_true rfl) dX11_most_4 (fun H locs zr2 w => ?_)
  refine lv_if_ne (tgt := 12) hx hb dX11_most_7 (by decide) (fun c3 => ?_) (fun c3 => ?_)
  · rw [if_neg c3] at hR
    refine lv_iload_n hx hb dX11_most_12 rfl (lv_at hl 1 rfl) ?_
    by_cases c4_0 : p1 = 0
    · rw [if_pos c4_0] at hR
      refine lv_tableIn (tgt := 60) hx hb dX11_most_13 (by rw [c4_0]; decide) (by rw [c4_0]; decide) (by rw [c4_0]; rfl) (by decide) ?_
      refine lv_aload_n hx hb dX11_most_60 rfl (lv_at hl 0 rfl) ?_
      refine lv_aload_n hx hb dX11_most_61 rfl (lv_at hl 0 rfl) ?_
      refine gX11_now X w lfX11_51 dX11_most_62 ?_
      refine gX8_lengths (Or.inl rfl) X w lfX11_188 dX11_most_65 ?_
      obtain ⟨r6, h5, hR⟩ := bd_e hR
      refine cVi (k := 0) (As := [.ref (ad 20)]) (rest := []) X hl.1 w okX11_highest obX11 rfl lmX11_352 (kX11_highest ⟨rfl, (by decide)⟩ h5) ⟨Nat.le_of_ble_eq_true rfl, Nat.le_of_ble_eq_true rfl⟩ ⟨rfl, rfl⟩ ⟨Nat.zero_le _, Nat.zero_le _⟩ rfl rfl (Nat.le_of_ble_eq_true rfl) dX11_most_68 (fun H locs zr6 w => ?_)
      rw [hQ]
      exact rt_i X hr hlk w hsz rfl (lf2 hR).1 rfl (lf2 hR).2 dX11_most_71
    · rw [if_neg c4_0] at hR
      by_cases c4_1 : p1 = 1
      · rw [if_pos c4_1] at hR
        refine lv_tableIn (tgt := 72) hx hb dX11_most_13 (by rw [c4_1]; decide) (by rw [c4_1]; decide) (by rw [c4_1]; rfl) (by decide) ?_
        refine lv_aload_n hx hb dX11_most_72 rfl (lv_at hl 0 rfl) ?_
        refine lv_aload_n hx hb dX11_most_73 rfl (lv_at hl 0 rfl) ?_
        refine gX11_now X w lfX11_51 dX11_most_74 ?_
        refine gX8_colours (Or.inl rfl) X w lfX11_182 dX11_most_77 ?_
        obtain ⟨r8, h7, hR⟩ := bd_e hR
        refine cVi (k := 0) (As := [.ref (ad 19)]) (rest := []) X hl.1 w okX11_highest obX11 rfl lmX11_352 (kX11_highest ⟨rfl, (by decide)⟩ h7) ⟨Nat.le_of_ble_eq_true rfl, Nat.le_of_ble_eq_true rfl⟩ ⟨rfl, rfl⟩ ⟨Nat.zero_le _, Nat.zero_le _⟩ rfl rfl (Nat.le_of_ble_eq_true rfl) dX11_most_80 (fun H locs zr8 w => ?_)
        rw [hQ]
        exact rt_i X hr hlk w hsz rfl (lf2 hR).1 rfl (lf2 hR).2 dX11_most_83
      · rw [if_neg c4_1] at hR
        by_cases c4_2 : p1 = 2
        · rw [if_pos c4_2] at hR
          refine lv_tableIn (tgt := 84) hx hb dX11_most_13 (by rw [c4_2]; decide) (by rw [c4_2]; decide) (by rw [c4_2]; rfl) (by decide) ?_
          refine lv_aload_n hx hb dX11_most_84 rfl (lv_at hl 0 rfl) ?_
          refine lv_aload_n hx hb dX11_most_85 rfl (lv_at hl 0 rfl) ?_
          refine gX11_mill X w lfX11_19 dX11_most_86 ?_
          refine gX5_plies (Or.inl rfl) X w lfX11_185 dX11_most_89 ?_
          obtain ⟨r10, h9, hR⟩ := bd_e hR
          refine cVi (k := 0) (As := [.ref (ad 5)]) (rest := []) X hl.1 w okX11_highest obX11 rfl lmX11_352 (kX11_highest ⟨rfl, (by decide)⟩ h9) ⟨Nat.le_of_ble_eq_true rfl, Nat.le_of_ble_eq_true rfl⟩ ⟨rfl, rfl⟩ ⟨Nat.zero_le _, Nat.zero_le _⟩ rfl rfl (Nat.le_of_ble_eq_true rfl) dX11_most_92 (fun H locs zr10 w => ?_)
          rw [hQ]
          exact rt_i X hr hlk w hsz rfl (lf2 hR).1 rfl (lf2 hR).2 dX11_most_95
        · rw [if_neg c4_2] at hR
          by_cases c4_3 : p1 = 3
          · rw [if_pos c4_3] at hR
            refine lv_tableIn (tgt := 96) hx hb dX11_most_13 (by rw [c4_3]; decide) (by rw [c4_3]; decide) (by rw [c4_3]; rfl) (by decide) ?_
            refine lv_aload_n hx hb dX11_most_96 rfl (lv_at hl 0 rfl) ?_
            refine gX11_now X w lfX11_51 dX11_most_97 ?_
            obtain ⟨r12, h11, hR⟩ := bd_e hR
            refine cVi (k := 18) (As := []) (rest := []) X hl.1 w okX8_looseBits (obX8 (Or.inl rfl)) rfl lmX11_356 (kX8_looseBits (Or.inl rfl) h11) ⟨Nat.le_of_ble_eq_true rfl, Nat.le_of_ble_eq_true rfl⟩ ⟨rfl, rfl⟩ ⟨Nat.zero_le _, Nat.zero_le _⟩ rfl rfl (Nat.le_of_ble_eq_true rfl) dX11_most_100 (fun H locs zr12 w => ?_)
            rw [hQ]
            exact rt_i X hr hlk w hsz rfl (lf2 hR).1 rfl (lf2 hR).2 dX11_most_103
          · rw [if_neg c4_3] at hR
            by_cases c4_4 : p1 = 4
            · rw [if_pos c4_4] at hR
              refine lv_tableIn (tgt := 104) hx hb dX11_most_13 (by rw [c4_4]; decide) (by rw [c4_4]; decide) (by rw [c4_4]; rfl) (by decide) ?_
              refine lv_aload_n hx hb dX11_most_104 rfl (lv_at hl 0 rfl) ?_
              refine gX11_now X w lfX11_51 dX11_most_105 ?_
              refine gX8_sold (Or.inl rfl) X w lfX11_240 dX11_most_108 ?_
              rw [hQ]
              exact rt_i X hr hlk w hsz rfl (lf2 hR).1 rfl (lf2 hR).2 dX11_most_111
            · rw [if_neg c4_4] at hR
              by_cases c4_5 : p1 = 5
              · rw [if_pos c4_5] at hR
                refine lv_tableIn (tgt := 112) hx hb dX11_most_13 (by rw [c4_5]; decide) (by rw [c4_5]; decide) (by rw [c4_5]; rfl) (by decide) ?_
                refine lv_aload_n hx hb dX11_most_112 rfl (lv_at hl 0 rfl) ?_
                refine gX11_advice X w lfX11_76 dX11_most_113 ?_
                obtain ⟨S15, r14, h13, hR⟩ := b2_e hR
                refine cVi (k := 29) (As := []) (rest := []) X hl.1 w okX0_rackBits obX0 rfl lmX11_359 (kX0_rackBits h13) ⟨Nat.le_of_ble_eq_true rfl, Nat.le_of_ble_eq_true rfl⟩ ⟨rfl, rfl⟩ ⟨Nat.zero_le _, Nat.zero_le _⟩ rfl rfl (Nat.le_of_ble_eq_true rfl) dX11_most_116 (fun H locs zr14 w => ?_)
                rw [hQ]
                exact rt_i X hr hlk w hsz rfl (lf2 hR).1 rfl (lf2 hR).2 dX11_most_119
              · rw [if_neg c4_5] at hR
                by_cases c4_6 : p1 = 6
                · rw [if_pos c4_6] at hR
                  refine lv_tableIn (tgt := 120) hx hb dX11_most_13 (by rw [c4_6]; decide) (by rw [c4_6]; decide) (by rw [c4_6]; rfl) (by decide) ?_
                  refine lv_aload_n hx hb dX11_most_120 rfl (lv_at hl 0 rfl) ?_
                  refine gX11_advice X w lfX11_76 dX11_most_121 ?_
                  obtain ⟨r17, h16, hR⟩ := bd_e hR
                  refine cVi (k := 29) (As := []) (rest := []) X hl.1 w okX0_countTales obX0 rfl lmX11_362 (kX0_countTales h16) ⟨Nat.le_of_ble_eq_true rfl, Nat.le_of_ble_eq_true rfl⟩ ⟨rfl, rfl⟩ ⟨Nat.zero_le _, Nat.zero_le _⟩ rfl rfl (Nat.le_of_ble_eq_true rfl) dX11_most_124 (fun H locs zr17 w => ?_)
                  rw [hQ]
                  exact rt_i X hr hlk w hsz rfl (lf2 hR).1 rfl (lf2 hR).2 dX11_most_127
                · rw [if_neg c4_6] at hR
                  by_cases c4_7 : p1 = 7
                  · rw [if_pos c4_7] at hR
                    refine lv_tableIn (tgt := 128) hx hb dX11_most_13 (by rw [c4_7]; decide) (by rw [c4_7]; decide) (by rw [c4_7]; rfl) (by decide) ?_
                    refine lv_aload_n hx hb dX11_most_128 rfl (lv_at hl 0 rfl) ?_
                    refine gX11_advice X w lfX11_76 dX11_most_129 ?_
                    obtain ⟨r19, h18, hR⟩ := bd_e hR
                    refine cVi (k := 29) (As := []) (rest := []) X hl.1 w okX0_priceOfTales obX0 rfl lmX11_365 (kX0_priceOfTales h18) ⟨Nat.le_of_ble_eq_true rfl, Nat.le_of_ble_eq_true rfl⟩ ⟨rfl, rfl⟩ ⟨Nat.zero_le _, Nat.zero_le _⟩ rfl rfl (Nat.le_of_ble_eq_true rfl) dX11_most_132 (fun H locs zr19 w => ?_)
                    rw [hQ]
                    exact rt_i X hr hlk w hsz rfl (lf2 hR).1 rfl (lf2 hR).2 dX11_most_135
                  · rw [if_neg c4_7] at hR
                    have hh0 := ne_int (n := 0) (by decide) c4_0
                    have hh1 := ne_int (n := 1) (by decide) c4_1
                    have hh2 := ne_int (n := 2) (by decide) c4_2
                    have hh3 := ne_int (n := 3) (by decide) c4_3
                    have hh4 := ne_int (n := 4) (by decide) c4_4
                    have hh5 := ne_int (n := 5) (by decide) c4_5
                    have hh6 := ne_int (n := 6) (by decide) c4_6
                    have hh7 := ne_int (n := 7) (by decide) c4_7
                    refine lv_tableOut (tgt := 136) hx hb dX11_most_13 (by omega) (by decide) ?_
                    refine lv_iconst (v := -1) hx hb dX11_most_136 (by decide) ?_
                    rw [hQ]
                    exact rt_i X hr hlk w hsz rfl (lf2 hR).1 rfl (lf2 hR).2 dX11_most_137
  · rw [if_pos c3] at hR
    refine lv_iconst (v := -1) hx hb dX11_most_10 (by decide) ?_
    rw [hQ]
    exact rt_i X hr hlk w hsz rfl (lf2 hR).1 rfl (lf2 hR).2 dX11_most_11
/- LooseEnds.image()I -/
def fX11_image (N : Nat) (S : SS) : Option (SS × Int32) := bd (fX5_isThere N S 3) fun r2 =>
  if r2 = 0 then
  (some (S, (-1)))
  else
  (bd (fX4_keepImage N S 18) fun S5 =>
  some (S5, gi S5 18 9))
set_option maxHeartbeats 4000000 in
set_option maxRecDepth 100000 in
theorem kX11_image {l : Launch} {D : va_G} {dA : Nat → ClassId} {ad : Nat → Nat} {t1 t2 : Nat} {N : Nat} {S T : SS} {o : Nat → Int64} {r : Int32} {S' : SS} (hR : fX11_image N S = some (S', r)) : KI l D dA ad t1 t2 yX11_image cX11_image 1 .int { frames := 3, cells := 0, slots := 0, locals := 84 } [.ref (ad 0)] S T o r S' T := by
  intro sz
  refine en_ (plainFor_of_name (by decide)) (Nat.le_of_ble_eq_true rfl) ?_
  intro p ev s m args below meth c QQ hQ hsz X hr hlk w ls hl
  have hx := X.1
  have hb := X.2.1
  have hl : lv_has ls 1 [(0, .ref (ad 0))] := hl
  unfold fX11_image at hR
  refine lv_aload_n hx hb dX11_image_0 rfl (lv_at hl 0 rfl) ?_
  refine gX11_mill X w lfX11_19 dX11_image_1 ?_
  obtain ⟨r2, h1, hR⟩ := bd_e hR
  refine cVi (k := 3) (As := []) (rest := []) X hl.1 w okX5_isThere (obX5 (Or.inl rfl)) rfl lmX11_155 (kX5_isThere (Or.inl rfl) h1) ⟨Nat.le_of_ble_eq_true rfl, Nat.le_of_ble_eq_true rfl⟩ ⟨rfl, rfl⟩ ⟨Nat.zero_le _, Nat.zero_le _⟩ rfl rfl (Nat.le_of_ble_eq_true rfl) dX11_image_4 (fun H locs zr2 w => ?_)
  refine lv_if_ne (tgt := 12) hx hb dX11_image_7 (by decide) (fun c3 => ?_) (fun c3 => ?_)
  · rw [if_neg c3] at hR
    refine lv_aload_n hx hb dX11_image_12 rfl (lv_at hl 0 rfl) ?_
    refine gX11_memory X w lfX11_58 dX11_image_13 ?_
    refine lv_aload_n hx hb dX11_image_16 rfl (lv_at hl 0 rfl) ?_
    refine gX11_now X w lfX11_51 dX11_image_17 ?_
    obtain ⟨S5, h4, hR⟩ := bd_e hR
    refine cVv (k := 23) (As := [.ref (ad 18)]) (rest := []) X hl.1 w okX4_keepImage obX4 rfl lmX11_368 (kX4_keepImage (Or.inl rfl) h4) ⟨Nat.le_of_ble_eq_true rfl, Nat.le_of_ble_eq_true rfl⟩ ⟨rfl, rfl⟩ ⟨Nat.zero_le _, Nat.zero_le _⟩ rfl rfl (Nat.le_of_ble_eq_true rfl) dX11_image_20 (fun H locs w => ?_)
    refine lv_aload_n hx hb dX11_image_23 rfl (lv_at hl 0 rfl) ?_
    refine gX11_now X w lfX11_51 dX11_image_24 ?_
    refine gX8_day (Or.inl rfl) X w lfX11_249 dX11_image_27 ?_
    rw [hQ]
    exact rt_i X hr hlk w hsz rfl (lf2 hR).1 rfl (lf2 hR).2 dX11_image_30
  · rw [if_pos c3] at hR
    refine lv_iconst (v := -1) hx hb dX11_image_10 (by decide) ?_
    rw [hQ]
    exact rt_i X hr hlk w hsz rfl (lf2 hR).1 rfl (lf2 hR).2 dX11_image_11
/- LooseEnds.back()I -/
def fX11_back (N : Nat) (S : SS) : Option (SS × Int32) := b2 (fX4_bringBackImage N S 18) fun S3 r2 =>
  if r2 = 0 then
  (some (S3, (-1)))
  else
  (some (S3, gi S3 18 9))
set_option maxHeartbeats 4000000 in
set_option maxRecDepth 100000 in
theorem kX11_back {l : Launch} {D : va_G} {dA : Nat → ClassId} {ad : Nat → Nat} {t1 t2 : Nat} {N : Nat} {S T : SS} {o : Nat → Int64} {r : Int32} {S' : SS} (hR : fX11_back N S = some (S', r)) : KI l D dA ad t1 t2 yX11_back cX11_back 1 .int { frames := 3, cells := 0, slots := 0, locals := 84 } [.ref (ad 0)] S T o r S' T := by
  intro sz
  refine en_ (plainFor_of_name (by decide)) (Nat.le_of_ble_eq_true rfl) ?_
  intro p ev s m args below meth c QQ hQ hsz X hr hlk w ls hl
  have hx := X.1
  have hb := X.2.1
  have hl : lv_has ls 1 [(0, .ref (ad 0))] := hl
  unfold fX11_back at hR
  refine lv_aload_n hx hb dX11_back_0 rfl (lv_at hl 0 rfl) ?_
  refine gX11_memory X w lfX11_58 dX11_back_1 ?_
  refine lv_aload_n hx hb dX11_back_4 rfl (lv_at hl 0 rfl) ?_
  refine gX11_now X w lfX11_51 dX11_back_5 ?_
  obtain ⟨S3, r2, h1, hR⟩ := b2_e hR
  refine cVi (k := 23) (As := [.ref (ad 18)]) (rest := []) X hl.1 w okX4_bringBackImage obX4 rfl lmX11_371 (kX4_bringBackImage (Or.inl rfl) h1) ⟨Nat.le_of_ble_eq_true rfl, Nat.le_of_ble_eq_true rfl⟩ ⟨rfl, rfl⟩ ⟨Nat.zero_le _, Nat.zero_le _⟩ rfl rfl (Nat.le_of_ble_eq_true rfl) dX11_back_8 (fun H locs zr2 w => ?_)
  refine lv_if_eq (tgt := 24) hx hb dX11_back_11 (by decide) (fun c4 => ?_) (fun c4 => ?_)
  · rw [if_pos c4] at hR
    refine lv_iconst (v := -1) hx hb dX11_back_24 (by decide) ?_
    rw [hQ]
    exact rt_i X hr hlk w hsz rfl (lf2 hR).1 rfl (lf2 hR).2 dX11_back_25
  · rw [if_neg c4] at hR
    refine lv_aload_n hx hb dX11_back_14 rfl (lv_at hl 0 rfl) ?_
    refine gX11_now X w lfX11_51 dX11_back_15 ?_
    refine gX8_day (Or.inl rfl) X w lfX11_249 dX11_back_18 ?_
    refine lv_goto (tgt := 25) hx hb dX11_back_21 (by decide) ?_
    rw [hQ]
    exact rt_i X hr hlk w hsz rfl (lf2 hR).1 rfl (lf2 hR).2 dX11_back_25
/- LooseEnds.count(I)I -/
def fX11_count (N : Nat) (S : SS) (p1 : Int32) : Option (Int32) := if p1 = 0 then
  (some (gi S 3 0))
  else
  (if p1 = 1 then
  (some (gi S 14 4))
  else
  (if p1 = 2 then
  (some (gi S 1 1))
  else
  (if p1 = 3 then
  (some (gi S 14 5))
  else
  (if p1 = 4 then
  (some (gi S 18 9))
  else
  (if p1 = 5 then
  (some (gi S 18 6))
  else
  (if p1 = 6 then
  (some (gi S 0 12))
  else
  (if p1 = 7 then
  (some (gi S 40 5))
  else
  (if p1 = 8 then
  (bd (fX4_loggedBy N (gi S 18 9)) fun r3 =>
  some r3)
  else
  (if p1 = 9 then
  (some (gi S 23 6))
  else
  (some (-1000000)))))))))))
set_option maxHeartbeats 4000000 in
set_option maxRecDepth 100000 in
theorem kX11_count {l : Launch} {D : va_G} {dA : Nat → ClassId} {ad : Nat → Nat} {t1 t2 : Nat} {N : Nat} {S T : SS} {o : Nat → Int64} {p1 : Int32} {r : Int32} (hR : fX11_count N S p1 = some r) : KI l D dA ad t1 t2 yX11_count cX11_count 2 .int { frames := 2, cells := 0, slots := 0, locals := 33 } [.ref (ad 0), .int p1] S T o r S T := by
  intro sz
  refine en_ (plainFor_of_name (by decide)) (Nat.le_of_ble_eq_true rfl) ?_
  intro p ev s m args below meth c QQ hQ hsz X hr hlk w ls hl
  have hx := X.1
  have hb := X.2.1
  have hl : lv_has ls 2 [(0, .ref (ad 0)), (1, .int p1)] := hl
  unfold fX11_count at hR
  refine lv_iload_n hx hb dX11_count_0 rfl (lv_at hl 1 rfl) ?_
  by_cases c1_0 : p1 = 0
  · rw [if_pos c1_0] at hR
    refine lv_tableIn (tgt := 56) hx hb dX11_count_1 (by rw [c1_0]; decide) (by rw [c1_0]; decide) (by rw [c1_0]; rfl) (by decide) ?_
    refine lv_aload_n hx hb dX11_count_56 rfl (lv_at hl 0 rfl) ?_
    refine gX11_mill X w lfX11_19 dX11_count_57 ?_
    refine gX5_ends (Or.inl rfl) X w lfX11_143 dX11_count_60 ?_
    rw [hQ]
    exact rt_i X hr hlk w hsz rfl rfl rfl (lf1 hR) dX11_count_63
  · rw [if_neg c1_0] at hR
    by_cases c1_1 : p1 = 1
    · rw [if_pos c1_1] at hR
      refine lv_tableIn (tgt := 64) hx hb dX11_count_1 (by rw [c1_1]; decide) (by rw [c1_1]; decide) (by rw [c1_1]; rfl) (by decide) ?_
      refine lv_aload_n hx hb dX11_count_64 rfl (lv_at hl 0 rfl) ?_
      refine gX11_judge X w lfX11_44 dX11_count_65 ?_
      refine gX2_size X w lfX11_146 dX11_count_68 ?_
      rw [hQ]
      exact rt_i X hr hlk w hsz rfl rfl rfl (lf1 hR) dX11_count_71
    · rw [if_neg c1_1] at hR
      by_cases c1_2 : p1 = 2
      · rw [if_pos c1_2] at hR
        refine lv_tableIn (tgt := 72) hx hb dX11_count_1 (by rw [c1_2]; decide) (by rw [c1_2]; decide) (by rw [c1_2]; rfl) (by decide) ?_
        refine lv_aload_n hx hb dX11_count_72 rfl (lv_at hl 0 rfl) ?_
        refine gX11_tape X w lfX11_10 dX11_count_73 ?_
        refine gX9_length X w lfX11_110 dX11_count_76 ?_
        rw [hQ]
        exact rt_i X hr hlk w hsz rfl rfl rfl (lf1 hR) dX11_count_79
      · rw [if_neg c1_2] at hR
        by_cases c1_3 : p1 = 3
        · rw [if_pos c1_3] at hR
          refine lv_tableIn (tgt := 80) hx hb dX11_count_1 (by rw [c1_3]; decide) (by rw [c1_3]; decide) (by rw [c1_3]; rfl) (by decide) ?_
          refine lv_aload_n hx hb dX11_count_80 rfl (lv_at hl 0 rfl) ?_
          refine gX11_judge X w lfX11_44 dX11_count_81 ?_
          refine gX2_holding X w lfX11_200 dX11_count_84 ?_
          rw [hQ]
          exact rt_i X hr hlk w hsz rfl rfl rfl (lf1 hR) dX11_count_87
        · rw [if_neg c1_3] at hR
          by_cases c1_4 : p1 = 4
          · rw [if_pos c1_4] at hR
            refine lv_tableIn (tgt := 88) hx hb dX11_count_1 (by rw [c1_4]; decide) (by rw [c1_4]; decide) (by rw [c1_4]; rfl) (by decide) ?_
            refine lv_aload_n hx hb dX11_count_88 rfl (lv_at hl 0 rfl) ?_
            refine gX11_now X w lfX11_51 dX11_count_89 ?_
            refine gX8_day (Or.inl rfl) X w lfX11_249 dX11_count_92 ?_
            rw [hQ]
            exact rt_i X hr hlk w hsz rfl rfl rfl (lf1 hR) dX11_count_95
          · rw [if_neg c1_4] at hR
            by_cases c1_5 : p1 = 5
            · rw [if_pos c1_5] at hR
              refine lv_tableIn (tgt := 96) hx hb dX11_count_1 (by rw [c1_5]; decide) (by rw [c1_5]; decide) (by rw [c1_5]; rfl) (by decide) ?_
              refine lv_aload_n hx hb dX11_count_96 rfl (lv_at hl 0 rfl) ?_
              refine gX11_now X w lfX11_51 dX11_count_97 ?_
              refine gX8_tries (Or.inl rfl) X w lfX11_374 dX11_count_100 ?_
              rw [hQ]
              exact rt_i X hr hlk w hsz rfl rfl rfl (lf1 hR) dX11_count_103
            · rw [if_neg c1_5] at hR
              by_cases c1_6 : p1 = 6
              · rw [if_pos c1_6] at hR
                refine lv_tableIn (tgt := 104) hx hb dX11_count_1 (by rw [c1_6]; decide) (by rw [c1_6]; decide) (by rw [c1_6]; rfl) (by decide) ?_
                refine lv_aload_n hx hb dX11_count_104 rfl (lv_at hl 0 rfl) ?_
                refine gX11_waking X w lfX11_102 dX11_count_105 ?_
                rw [hQ]
                exact rt_i X hr hlk w hsz rfl rfl rfl (lf1 hR) dX11_count_108
              · rw [if_neg c1_6] at hR
                by_cases c1_7 : p1 = 7
                · rw [if_pos c1_7] at hR
                  refine lv_tableIn (tgt := 109) hx hb dX11_count_1 (by rw [c1_7]; decide) (by rw [c1_7]; decide) (by rw [c1_7]; rfl) (by decide) ?_
                  refine lv_aload_n hx hb dX11_count_109 rfl (lv_at hl 0 rfl) ?_
                  refine gX11_sightings X w lfX11_85 dX11_count_110 ?_
                  refine gX7_size X w lfX11_140 dX11_count_113 ?_
                  rw [hQ]
                  exact rt_i X hr hlk w hsz rfl rfl rfl (lf1 hR) dX11_count_116
                · rw [if_neg c1_7] at hR
                  by_cases c1_8 : p1 = 8
                  · rw [if_pos c1_8] at hR
                    refine lv_tableIn (tgt := 117) hx hb dX11_count_1 (by rw [c1_8]; decide) (by rw [c1_8]; decide) (by rw [c1_8]; rfl) (by decide) ?_
                    refine lv_aload_n hx hb dX11_count_117 rfl (lv_at hl 0 rfl) ?_
                    refine gX11_now X w lfX11_51 dX11_count_118 ?_
                    refine gX8_day (Or.inl rfl) X w lfX11_249 dX11_count_121 ?_
                    obtain ⟨r3, h2, hR⟩ := bd_e hR
                    refine cSi (As := [.int (gi S 18 9)]) (rest := []) X hl.1 w okX4_loggedBy lmX11_377 (kX4_loggedBy h2) ⟨Nat.le_of_ble_eq_true rfl, Nat.le_of_ble_eq_true rfl⟩ ⟨rfl, rfl⟩ ⟨Nat.zero_le _, Nat.zero_le _⟩ rfl rfl (Nat.le_of_ble_eq_true rfl) dX11_count_124 (fun H locs zr3 w => ?_)
                    rw [hQ]
                    exact rt_i X hr hlk w hsz rfl rfl rfl (lf1 hR) dX11_count_127
                  · rw [if_neg c1_8] at hR
                    by_cases c1_9 : p1 = 9
                    · rw [if_pos c1_9] at hR
                      refine lv_tableIn (tgt := 128) hx hb dX11_count_1 (by rw [c1_9]; decide) (by rw [c1_9]; decide) (by rw [c1_9]; rfl) (by decide) ?_
                      refine lv_aload_n hx hb dX11_count_128 rfl (lv_at hl 0 rfl) ?_
                      refine gX11_memory X w lfX11_58 dX11_count_129 ?_
                      refine gX4_size X w lfX11_267 dX11_count_132 ?_
                      rw [hQ]
                      exact rt_i X hr hlk w hsz rfl rfl rfl (lf1 hR) dX11_count_135
                    · rw [if_neg c1_9] at hR
                      have hh0 := ne_int (n := 0) (by decide) c1_0
                      have hh1 := ne_int (n := 1) (by decide) c1_1
                      have hh2 := ne_int (n := 2) (by decide) c1_2
                      have hh3 := ne_int (n := 3) (by decide) c1_3
                      have hh4 := ne_int (n := 4) (by decide) c1_4
                      have hh5 := ne_int (n := 5) (by decide) c1_5
                      have hh6 := ne_int (n := 6) (by decide) c1_6
                      have hh7 := ne_int (n := 7) (by decide) c1_7
                      have hh8 := ne_int (n := 8) (by decide) c1_8
                      have hh9 := ne_int (n := 9) (by decide) c1_9
                      refine lv_tableOut (tgt := 136) hx hb dX11_count_1 (by omega) (by decide) ?_
                      refine lv_ldcw X.1 X.2.1 X.2.2.2.1 (X.2.2.2.2 _ lcX11_320) dX11_count_136 ?_
                      rw [hQ]
                      exact rt_i X hr hlk w hsz rfl rfl rfl (lf1 hR) dX11_count_139
