/- LooseEnds$State.firstOf(I)I -/
def fX8_firstOf_l4 (N : Nat) (k0 : Nat) : Nat → Int32 → Int32 → SS → Option (Int32)
  | 0, _, _, _ => none
  | n + 1, x2, x3, S => if (gi S k0 4) ≤ x3 then
  (some x2)
  else
  (ck (inb x2 7) <|
  if (ga S (k0 + 4) x2) = (-1) then
  (some x2)
  else
  (ck (inb x2 7) <|
  lt (ga S (k0 + 4) x2) fun v5 =>
  lt (x3 + 1) fun v6 =>
  fX8_firstOf_l4 N k0 n v5 v6 S))
def fX8_firstOf (N : Nat) (S : SS) (k0 : Nat) (p1 : Int32) : Option (Int32) := fX8_firstOf_l4 N k0 N p1 0 S
set_option maxHeartbeats 4000000 in
set_option maxRecDepth 100000 in
theorem kX8_firstOf {l : Launch} {D : va_G} {dA : Nat → ClassId} {ad : Nat → Nat} {t1 t2 : Nat} {N : Nat} {k0 : Nat} (hk0 : k0 = 18 ∨ k0 = 30) {S T : SS} {o : Nat → Int64} {p1 : Int32} {r : Int32} (hR : fX8_firstOf N S k0 p1 = some r) : KI l D dA ad t1 t2 yX8_firstOf cX8_firstOf 4 .int { frames := 0, cells := 0, slots := 0, locals := 0 } [.ref (ad k0), .int p1] S T o r S T := by
  intro sz
  refine en_ (plainFor_of_name (by decide)) (Nat.le_of_ble_eq_true rfl) ?_
  intro p ev s m args below meth c QQ hQ hsz X hr hlk w ls hl
  have hx := X.1
  have hb := X.2.1
  have L4 : ∀ (n : Nat), ∀ (x2 : Int32) (x3 : Int32), fX8_firstOf_l4 N k0 n x2 x3 S = some r → WAT p l ev ({ frames := 0, cells := 0, slots := 0, locals := 0 } : Room) s m args below meth c QQ 4 D dA ad t1 t2 S T o 4 [(0, .ref (ad k0)), (2, .int x2), (3, .int x3)] [] := by
    intro n
    induction n with
    | zero =>
      intro x2 x3 hR
      exact nomatch hR
    | succ n ih =>
      intro x2 x3 hR H locs ls w hl
      rw [fX8_firstOf_l4] at hR
      refine lv_iload_n hx hb dX8_firstOf_4 rfl (lv_at hl 2 rfl) ?_
      refine lv_aload_n hx hb dX8_firstOf_5 rfl (lv_at hl 0 rfl) ?_
      refine gX8_ends hk0 X w lfX8_51 dX8_firstOf_6 ?_
      refine lv_icmp_ge (tgt := 35) hx hb dX8_firstOf_9 (by decide) (fun c1 => ?_) (fun c1 => ?_)
      · rw [if_pos c1] at hR
        refine lv_iload_n hx hb dX8_firstOf_35 rfl (lv_at hl 1 rfl) ?_
        rw [hQ]
        exact rt_i X hr hlk w hsz rfl rfl rfl (lf1 hR) dX8_firstOf_36
      · rw [if_neg c1] at hR
        refine lv_aload_n hx hb dX8_firstOf_12 rfl (lv_at hl 0 rfl) ?_
        refine gX8_ahead hk0 X w lfX8_21 dX8_firstOf_13 ?_
        refine lv_iload_n hx hb dX8_firstOf_16 rfl (lv_at hl 1 rfl) ?_
        obtain ⟨g2, hR⟩ := ck_e hR
        refine ialS (n := 7) (ikX8_4 hk0) (lkX8_4 hk0) X w (nkX8_4 hk0) g2 dX8_firstOf_17 ?_
        refine lv_iconst (v := -1) hx hb dX8_firstOf_18 (by decide) ?_
        refine lv_icmp_eq (tgt := 35) hx hb dX8_firstOf_19 (by decide) (fun c3 => ?_) (fun c3 => ?_)
        · rw [if_pos c3] at hR
          refine lv_iload_n hx hb dX8_firstOf_35 rfl (lv_at hl 1 rfl) ?_
          rw [hQ]
          exact rt_i X hr hlk w hsz rfl rfl rfl (lf1 hR) dX8_firstOf_36
        · rw [if_neg c3] at hR
          refine lv_aload_n hx hb dX8_firstOf_22 rfl (lv_at hl 0 rfl) ?_
          refine gX8_ahead hk0 X w lfX8_21 dX8_firstOf_23 ?_
          refine lv_iload_n hx hb dX8_firstOf_26 rfl (lv_at hl 1 rfl) ?_
          obtain ⟨g4, hR⟩ := ck_e hR
          refine ialS (n := 7) (ikX8_4 hk0) (lkX8_4 hk0) X w (nkX8_4 hk0) g4 dX8_firstOf_27 ?_
          obtain ⟨v5, ev5, hR⟩ := lt_e hR
          refine nm_i ev5 ?_
          refine lv_istore_n (lv' := [(2, .int v5), (0, .ref (ad k0)), (3, .int x3)]) hx hb dX8_firstOf_28 rfl hl (by decide) rfl (fun ls hl => ?_)
          obtain ⟨v6, ev6, hR⟩ := lt_e hR
          refine lv_iinc (v := v6) (lv' := [(3, .int v6), (2, .int v5), (0, .ref (ad k0))]) hx hb dX8_firstOf_29 hl (k := 2) rfl (by rw [ev6]; rfl) (by decide) rfl (fun ls hl => ?_)
          refine lv_goto (tgt := 4) hx hb dX8_firstOf_32 (by decide) ?_
          exact ih v5 v6 hR _ _ _ w (lv_sub hl [2, 1, 0] rfl)
  have hl : lv_has ls 4 [(0, .ref (ad k0)), (1, .int p1)] := hl
  unfold fX8_firstOf at hR
  refine lv_iload_n hx hb dX8_firstOf_0 rfl (lv_at hl 1 rfl) ?_
  refine lv_istore_n (lv' := [(2, .int p1), (0, .ref (ad k0)), (1, .int p1)]) hx hb dX8_firstOf_1 rfl hl (by decide) rfl (fun ls hl => ?_)
  refine lv_iconst (v := 0) hx hb dX8_firstOf_2 (by decide) ?_
  refine lv_istore_n (lv' := [(3, .int 0), (2, .int p1), (0, .ref (ad k0)), (1, .int p1)]) hx hb dX8_firstOf_3 rfl hl (by decide) rfl (fun ls hl => ?_)
  exact L4 N p1 0 hR _ _ _ w (lv_sub hl [2, 1, 0] rfl)
/- LooseEnds$State.taleOf(I)I -/
def fX8_taleOf_l11 (N : Nat) (k0 : Nat) : Nat → Int32 → Int32 → Int32 → SS → Option (Int32)
  | 0, _, _, _, _ => none
  | n + 1, x2, x3, x4, S => if (gi S k0 4) ≤ x4 then
  (some x2)
  else
  (if x3 = (-1) then
  (some x2)
  else
  (lt (x2 ||| (sl 1 x3)) fun v3 =>
  ck (inb x3 7) <|
  lt (ga S (k0 + 3) x3) fun v5 =>
  lt (x4 + 1) fun v6 =>
  fX8_taleOf_l11 N k0 n v3 v5 v6 S))
def fX8_taleOf (N : Nat) (S : SS) (k0 : Nat) (p1 : Int32) : Option (Int32) := bd (fX8_firstOf N S k0 p1) fun r2 =>
  fX8_taleOf_l11 N k0 N 0 r2 0 S
set_option maxHeartbeats 4000000 in
set_option maxRecDepth 100000 in
theorem kX8_taleOf {l : Launch} {D : va_G} {dA : Nat → ClassId} {ad : Nat → Nat} {t1 t2 : Nat} {N : Nat} {k0 : Nat} (hk0 : k0 = 18 ∨ k0 = 30) {S T : SS} {o : Nat → Int64} {p1 : Int32} {r : Int32} (hR : fX8_taleOf N S k0 p1 = some r) : KI l D dA ad t1 t2 yX8_taleOf cX8_taleOf 5 .int { frames := 1, cells := 0, slots := 0, locals := 23 } [.ref (ad k0), .int p1] S T o r S T := by
  intro sz
  refine en_ (plainFor_of_name (by decide)) (Nat.le_of_ble_eq_true rfl) ?_
  intro p ev s m args below meth c QQ hQ hsz X hr hlk w ls hl
  have hx := X.1
  have hb := X.2.1
  have L11 : ∀ (n : Nat), ∀ (x2 : Int32) (x3 : Int32) (x4 : Int32), fX8_taleOf_l11 N k0 n x2 x3 x4 S = some r → WAT p l ev ({ frames := 1, cells := 0, slots := 0, locals := 23 } : Room) s m args below meth c QQ 5 D dA ad t1 t2 S T o 11 [(0, .ref (ad k0)), (2, .int x2), (3, .int x3), (4, .int x4)] [] := by
    intro n
    induction n with
    | zero =>
      intro x2 x3 x4 hR
      exact nomatch hR
    | succ n ih =>
      intro x2 x3 x4 hR H locs ls w hl
      rw [fX8_taleOf_l11] at hR
      refine lv_iload hx hb dX8_taleOf_11 (lv_at hl 3 rfl) ?_
      refine lv_aload_n hx hb dX8_taleOf_13 rfl (lv_at hl 0 rfl) ?_
      refine gX8_ends hk0 X w lfX8_51 dX8_taleOf_14 ?_
      refine lv_icmp_ge (tgt := 44) hx hb dX8_taleOf_17 (by decide) (fun c1 => ?_) (fun c1 => ?_)
      · rw [if_pos c1] at hR
        refine lv_iload_n hx hb dX8_taleOf_44 rfl (lv_at hl 1 rfl) ?_
        rw [hQ]
        exact rt_i X hr hlk w hsz rfl rfl rfl (lf1 hR) dX8_taleOf_45
      · rw [if_neg c1] at hR
        refine lv_iload_n hx hb dX8_taleOf_20 rfl (lv_at hl 2 rfl) ?_
        refine lv_iconst (v := -1) hx hb dX8_taleOf_21 (by decide) ?_
        refine lv_icmp_eq (tgt := 44) hx hb dX8_taleOf_22 (by decide) (fun c2 => ?_) (fun c2 => ?_)
        · rw [if_pos c2] at hR
          refine lv_iload_n hx hb dX8_taleOf_44 rfl (lv_at hl 1 rfl) ?_
          rw [hQ]
          exact rt_i X hr hlk w hsz rfl rfl rfl (lf1 hR) dX8_taleOf_45
        · rw [if_neg c2] at hR
          refine lv_iload_n hx hb dX8_taleOf_25 rfl (lv_at hl 1 rfl) ?_
          refine lv_iconst (v := 1) hx hb dX8_taleOf_26 (by decide) ?_
          refine lv_iload_n hx hb dX8_taleOf_27 rfl (lv_at hl 2 rfl) ?_
          refine lv_ishl hx hb dX8_taleOf_28 ?_
          refine lv_ior hx hb dX8_taleOf_29 ?_
          obtain ⟨v3, ev3, hR⟩ := lt_e hR
          refine nm_i ev3 ?_
          refine lv_istore_n (lv' := [(2, .int v3), (0, .ref (ad k0)), (3, .int x3), (4, .int x4)]) hx hb dX8_taleOf_30 rfl hl (by decide) rfl (fun ls hl => ?_)
          refine lv_aload_n hx hb dX8_taleOf_31 rfl (lv_at hl 1 rfl) ?_
          refine gX8_behind hk0 X w lfX8_18 dX8_taleOf_32 ?_
          refine lv_iload_n hx hb dX8_taleOf_35 rfl (lv_at hl 2 rfl) ?_
          obtain ⟨g4, hR⟩ := ck_e hR
          refine ialS (n := 7) (ikX8_3 hk0) (lkX8_3 hk0) X w (nkX8_3 hk0) g4 dX8_taleOf_36 ?_
          obtain ⟨v5, ev5, hR⟩ := lt_e hR
          refine nm_i ev5 ?_
          refine lv_istore_n (lv' := [(3, .int v5), (2, .int v3), (0, .ref (ad k0)), (4, .int x4)]) hx hb dX8_taleOf_37 rfl hl (by decide) rfl (fun ls hl => ?_)
          obtain ⟨v6, ev6, hR⟩ := lt_e hR
          refine lv_iinc (v := v6) (lv' := [(4, .int v6), (3, .int v5), (2, .int v3), (0, .ref (ad k0))]) hx hb dX8_taleOf_38 hl (k := 3) rfl (by rw [ev6]; rfl) (by decide) rfl (fun ls hl => ?_)
          refine lv_goto (tgt := 11) hx hb dX8_taleOf_41 (by decide) ?_
          exact ih v3 v5 v6 hR _ _ _ w (lv_sub hl [3, 2, 1, 0] rfl)
  have hl : lv_has ls 5 [(0, .ref (ad k0)), (1, .int p1)] := hl
  unfold fX8_taleOf at hR
  refine lv_iconst (v := 0) hx hb dX8_taleOf_0 (by decide) ?_
  refine lv_istore_n (lv' := [(2, .int 0), (0, .ref (ad k0)), (1, .int p1)]) hx hb dX8_taleOf_1 rfl hl (by decide) rfl (fun ls hl => ?_)
  refine lv_aload_n hx hb dX8_taleOf_2 rfl (lv_at hl 1 rfl) ?_
  refine lv_iload_n hx hb dX8_taleOf_3 rfl (lv_at hl 2 rfl) ?_
  obtain ⟨r2, h1, hR⟩ := bd_e hR
  refine cVi (k := k0) (As := [.int p1]) (rest := []) X hl.1 w okX8_firstOf (obX8 hk0) rfl lmX8_71 (kX8_firstOf hk0 h1) ⟨Nat.le_of_ble_eq_true rfl, Nat.le_of_ble_eq_true rfl⟩ ⟨rfl, rfl⟩ ⟨Nat.zero_le _, Nat.zero_le _⟩ rfl rfl (Nat.le_of_ble_eq_true rfl) dX8_taleOf_4 (fun H locs zr2 w => ?_)
  refine lv_istore_n (lv' := [(3, .int r2), (2, .int 0), (0, .ref (ad k0)), (1, .int p1)]) hx hb dX8_taleOf_7 rfl hl (by decide) rfl (fun ls hl => ?_)
  refine lv_iconst (v := 0) hx hb dX8_taleOf_8 (by decide) ?_
  refine lv_istore (lv' := [(4, .int 0), (3, .int r2), (2, .int 0), (0, .ref (ad k0)), (1, .int p1)]) hx hb dX8_taleOf_9 hl (by decide) rfl (fun ls hl => ?_)
  exact L11 N 0 r2 0 hR _ _ _ w (lv_sub hl [3, 2, 1, 0] rfl)
/- java/lang/Integer.bitCount(I)I -/
def fJ6_bitCount_0f7a4 (N : Nat) (p0 : Int32) : Option (Int32) := lt (p0 - ((iu p0 1) &&& 1431655765)) fun v1 =>
  lt ((v1 &&& 858993459) + ((iu v1 2) &&& 858993459)) fun v2 =>
  lt ((v2 + (iu v2 4)) &&& 252645135) fun v3 =>
  lt (v3 + (iu v3 8)) fun v4 =>
  lt (v4 + (iu v4 16)) fun v5 =>
  some (v5 &&& 63)
set_option maxHeartbeats 4000000 in
set_option maxRecDepth 100000 in
theorem kJ6_bitCount_0f7a4 {l : Launch} {D : va_G} {dA : Nat → ClassId} {ad : Nat → Nat} {t1 t2 : Nat} {N : Nat} {S T : SS} {o : Nat → Int64} {p0 : Int32} {r : Int32} (hR : fJ6_bitCount_0f7a4 N p0 = some r) : KI l D dA ad t1 t2 yJ6_bitCount_0f7a4 cJ6_bitCount_0f7a4 1 .int { frames := 0, cells := 0, slots := 0, locals := 0 } [.int p0] S T o r S T := by
  intro sz
  refine en_ (plainFor_of_name (by decide)) (Nat.le_of_ble_eq_true rfl) ?_
  intro p ev s m args below meth c QQ hQ hsz X hr hlk w ls hl
  have hx := X.1
  have hb := X.2.1
  have hl : lv_has ls 1 [(0, .int p0)] := hl
  unfold fJ6_bitCount_0f7a4 at hR
  refine lv_iload_n hx hb dJ6_bitCount_0f7a4_0 rfl (lv_at hl 0 rfl) ?_
  refine lv_iload_n hx hb dJ6_bitCount_0f7a4_1 rfl (lv_at hl 0 rfl) ?_
  refine lv_iconst (v := 1) hx hb dJ6_bitCount_0f7a4_2 (by decide) ?_
  refine lv_iushr hx hb dJ6_bitCount_0f7a4_3 rfl ?_
  refine lv_ldcw X.1 X.2.1 X.2.2.2.1 (X.2.2.2.2 _ lcJ6_265) dJ6_bitCount_0f7a4_4 ?_
  refine lv_iand hx hb dJ6_bitCount_0f7a4_7 ?_
  refine lv_isub hx hb dJ6_bitCount_0f7a4_8 ?_
  obtain ⟨v1, ev1, hR⟩ := lt_e hR
  refine nm_i ev1 ?_
  refine lv_istore_n (lv' := [(0, .int v1)]) hx hb dJ6_bitCount_0f7a4_9 rfl hl (by decide) rfl (fun ls hl => ?_)
  refine lv_iload_n hx hb dJ6_bitCount_0f7a4_10 rfl (lv_at hl 0 rfl) ?_
  refine lv_ldcw X.1 X.2.1 X.2.2.2.1 (X.2.2.2.2 _ lcJ6_266) dJ6_bitCount_0f7a4_11 ?_
  refine lv_iand hx hb dJ6_bitCount_0f7a4_14 ?_
  refine lv_iload_n hx hb dJ6_bitCount_0f7a4_15 rfl (lv_at hl 0 rfl) ?_
  refine lv_iconst (v := 2) hx hb dJ6_bitCount_0f7a4_16 (by decide) ?_
  refine lv_iushr hx hb dJ6_bitCount_0f7a4_17 rfl ?_
  refine lv_ldcw X.1 X.2.1 X.2.2.2.1 (X.2.2.2.2 _ lcJ6_266) dJ6_bitCount_0f7a4_18 ?_
  refine lv_iand hx hb dJ6_bitCount_0f7a4_21 ?_
  refine lv_iadd hx hb dJ6_bitCount_0f7a4_22 ?_
  obtain ⟨v2, ev2, hR⟩ := lt_e hR
  refine nm_i ev2 ?_
  refine lv_istore_n (lv' := [(0, .int v2)]) hx hb dJ6_bitCount_0f7a4_23 rfl hl (by decide) rfl (fun ls hl => ?_)
  refine lv_iload_n hx hb dJ6_bitCount_0f7a4_24 rfl (lv_at hl 0 rfl) ?_
  refine lv_iload_n hx hb dJ6_bitCount_0f7a4_25 rfl (lv_at hl 0 rfl) ?_
  refine lv_iconst (v := 4) hx hb dJ6_bitCount_0f7a4_26 (by decide) ?_
  refine lv_iushr hx hb dJ6_bitCount_0f7a4_27 rfl ?_
  refine lv_iadd hx hb dJ6_bitCount_0f7a4_28 ?_
  refine lv_ldcw X.1 X.2.1 X.2.2.2.1 (X.2.2.2.2 _ lcJ6_267) dJ6_bitCount_0f7a4_29 ?_
  refine lv_iand hx hb dJ6_bitCount_0f7a4_32 ?_
  obtain ⟨v3, ev3, hR⟩ := lt_e hR
  refine nm_i ev3 ?_
  refine lv_istore_n (lv' := [(0, .int v3)]) hx hb dJ6_bitCount_0f7a4_33 rfl hl (by decide) rfl (fun ls hl => ?_)
  refine lv_iload_n hx hb dJ6_bitCount_0f7a4_34 rfl (lv_at hl 0 rfl) ?_
  refine lv_iload_n hx hb dJ6_bitCount_0f7a4_35 rfl (lv_at hl 0 rfl) ?_
  refine lv_bipush (v := 8) hx hb dJ6_bitCount_0f7a4_36 (by decide) ?_
  refine lv_iushr hx hb dJ6_bitCount_0f7a4_38 rfl ?_
  refine lv_iadd hx hb dJ6_bitCount_0f7a4_39 ?_
  obtain ⟨v4, ev4, hR⟩ := lt_e hR
  refine nm_i ev4 ?_
  refine lv_istore_n (lv' := [(0, .int v4)]) hx hb dJ6_bitCount_0f7a4_40 rfl hl (by decide) rfl (fun ls hl => ?_)
  refine lv_iload_n hx hb dJ6_bitCount_0f7a4_41 rfl (lv_at hl 0 rfl) ?_
  refine lv_iload_n hx hb dJ6_bitCount_0f7a4_42 rfl (lv_at hl 0 rfl) ?_
  refine lv_bipush (v := 16) hx hb dJ6_bitCount_0f7a4_43 (by decide) ?_
  refine lv_iushr hx hb dJ6_bitCount_0f7a4_45 rfl ?_
  refine lv_iadd hx hb dJ6_bitCount_0f7a4_46 ?_
  obtain ⟨v5, ev5, hR⟩ := lt_e hR
  refine nm_i ev5 ?_
  refine lv_istore_n (lv' := [(0, .int v5)]) hx hb dJ6_bitCount_0f7a4_47 rfl hl (by decide) rfl (fun ls hl => ?_)
  refine lv_iload_n hx hb dJ6_bitCount_0f7a4_48 rfl (lv_at hl 0 rfl) ?_
  refine lv_bipush (v := 63) hx hb dJ6_bitCount_0f7a4_49 (by decide) ?_
  refine lv_iand hx hb dJ6_bitCount_0f7a4_51 ?_
  rw [hQ]
  exact rt_i X hr hlk w hsz rfl rfl rfl (lf1 hR) dJ6_bitCount_0f7a4_52
/- LooseEnds$State.sizeOf(I)I -/
def fX8_sizeOf (N : Nat) (S : SS) (k0 : Nat) (p1 : Int32) : Option (Int32) := bd (fX8_taleOf N S k0 p1) fun r2 =>
  bd (fJ6_bitCount_0f7a4 N r2) fun r4 =>
  some r4
set_option maxHeartbeats 4000000 in
set_option maxRecDepth 100000 in
theorem kX8_sizeOf {l : Launch} {D : va_G} {dA : Nat → ClassId} {ad : Nat → Nat} {t1 t2 : Nat} {N : Nat} {k0 : Nat} (hk0 : k0 = 18 ∨ k0 = 30) {S T : SS} {o : Nat → Int64} {p1 : Int32} {r : Int32} (hR : fX8_sizeOf N S k0 p1 = some r) : KI l D dA ad t1 t2 yX8_sizeOf cX8_sizeOf 2 .int { frames := 2, cells := 0, slots := 0, locals := 47 } [.ref (ad k0), .int p1] S T o r S T := by
  intro sz
  refine en_ (plainFor_of_name (by decide)) (Nat.le_of_ble_eq_true rfl) ?_
  intro p ev s m args below meth c QQ hQ hsz X hr hlk w ls hl
  have hx := X.1
  have hb := X.2.1
  have hl : lv_has ls 2 [(0, .ref (ad k0)), (1, .int p1)] := hl
  unfold fX8_sizeOf at hR
  refine lv_aload_n hx hb dX8_sizeOf_0 rfl (lv_at hl 0 rfl) ?_
  refine lv_iload_n hx hb dX8_sizeOf_1 rfl (lv_at hl 1 rfl) ?_
  obtain ⟨r2, h1, hR⟩ := bd_e hR
  refine cVi (k := k0) (As := [.int p1]) (rest := []) X hl.1 w okX8_taleOf (obX8 hk0) rfl lmX8_75 (kX8_taleOf hk0 h1) ⟨Nat.le_of_ble_eq_true rfl, Nat.le_of_ble_eq_true rfl⟩ ⟨rfl, rfl⟩ ⟨Nat.zero_le _, Nat.zero_le _⟩ rfl rfl (Nat.le_of_ble_eq_true rfl) dX8_sizeOf_2 (fun H locs zr2 w => ?_)
  obtain ⟨r4, h3, hR⟩ := bd_e hR
  refine cSi (As := [.int r2]) (rest := []) X hl.1 w okJ6_bitCount_0f7a4 lmX8_78 (kJ6_bitCount_0f7a4 h3) ⟨Nat.le_of_ble_eq_true rfl, Nat.le_of_ble_eq_true rfl⟩ ⟨rfl, rfl⟩ ⟨Nat.zero_le _, Nat.zero_le _⟩ rfl rfl (Nat.le_of_ble_eq_true rfl) dX8_sizeOf_5 (fun H locs zr4 w => ?_)
  rw [hQ]
  exact rt_i X hr hlk w hsz rfl rfl rfl (lf1 hR) dX8_sizeOf_8
/- LooseEnds$State.isSold(I)Z -/
def fX8_isSold (N : Nat) (S : SS) (k0 : Nat) (p1 : Int32) : Option (Int32) := if ((sr (gi S k0 5) p1) &&& 1) = 1 then
  (some 1)
  else
  (some 0)
set_option maxHeartbeats 4000000 in
set_option maxRecDepth 100000 in
theorem kX8_isSold {l : Launch} {D : va_G} {dA : Nat → ClassId} {ad : Nat → Nat} {t1 t2 : Nat} {N : Nat} {k0 : Nat} (hk0 : k0 = 18 ∨ k0 = 30) {S T : SS} {o : Nat → Int64} {p1 : Int32} {r : Int32} (hR : fX8_isSold N S k0 p1 = some r) : KI l D dA ad t1 t2 yX8_isSold cX8_isSold 2 .boolean { frames := 0, cells := 0, slots := 0, locals := 0 } [.ref (ad k0), .int p1] S T o r S T := by
  intro sz
  refine en_ (plainFor_of_name (by decide)) (Nat.le_of_ble_eq_true rfl) ?_
  intro p ev s m args below meth c QQ hQ hsz X hr hlk w ls hl
  have hx := X.1
  have hb := X.2.1
  have hl : lv_has ls 2 [(0, .ref (ad k0)), (1, .int p1)] := hl
  unfold fX8_isSold at hR
  refine lv_aload_n hx hb dX8_isSold_0 rfl (lv_at hl 0 rfl) ?_
  refine gX8_sold hk0 X w lfX8_30 dX8_isSold_1 ?_
  refine lv_iload_n hx hb dX8_isSold_4 rfl (lv_at hl 1 rfl) ?_
  refine lv_ishr hx hb dX8_isSold_5 ?_
  refine lv_iconst (v := 1) hx hb dX8_isSold_6 (by decide) ?_
  refine lv_iand hx hb dX8_isSold_7 ?_
  refine lv_iconst (v := 1) hx hb dX8_isSold_8 (by decide) ?_
  refine lv_icmp_ne (tgt := 16) hx hb dX8_isSold_9 (by decide) (fun c1 => ?_) (fun c1 => ?_)
  · rw [if_neg c1] at hR
    refine lv_iconst (v := 0) hx hb dX8_isSold_16 (by decide) ?_
    rw [hQ]
    exact rt_i X hr hlk w hsz rfl rfl rfl (lf1 hR) dX8_isSold_17
  · rw [if_pos c1] at hR
    refine lv_iconst (v := 1) hx hb dX8_isSold_12 (by decide) ?_
    refine lv_goto (tgt := 17) hx hb dX8_isSold_13 (by decide) ?_
    rw [hQ]
    exact rt_i X hr hlk w hsz rfl rfl rfl (lf1 hR) dX8_isSold_17
/- LooseEnds$State.isOpen(II)Z -/
def fX8_isOpen (N : Nat) (S : SS) (k0 : Nat) (p1 : Int32) (p2 : Int32) : Option (Int32) := if p1 = p2 then
  (some 0)
  else
  (bd (fX8_isSold N S k0 p1) fun r3 =>
  if r3 = 0 then
  (bd (fX8_isSold N S k0 p2) fun r6 =>
  if r6 = 0 then
  (ck (inb p1 7) <|
  if (ga S (k0 + 3) p1) = (-1) then
  (ck (inb p2 7) <|
  if (ga S (k0 + 4) p2) = (-1) then
  (bd (fX8_firstOf N S k0 p1) fun r13 =>
  if r13 = p2 then
  (some 0)
  else
  (some 1))
  else
  (some 0))
  else
  (some 0))
  else
  (some 0))
  else
  (some 0))
set_option maxHeartbeats 4000000 in
set_option maxRecDepth 100000 in
theorem kX8_isOpen {l : Launch} {D : va_G} {dA : Nat → ClassId} {ad : Nat → Nat} {t1 t2 : Nat} {N : Nat} {k0 : Nat} (hk0 : k0 = 18 ∨ k0 = 30) {S T : SS} {o : Nat → Int64} {p1 : Int32} {p2 : Int32} {r : Int32} (hR : fX8_isOpen N S k0 p1 p2 = some r) : KI l D dA ad t1 t2 yX8_isOpen cX8_isOpen 3 .boolean { frames := 1, cells := 0, slots := 0, locals := 23 } [.ref (ad k0), .int p1, .int p2] S T o r S T := by
  intro sz
  refine en_ (plainFor_of_name (by decide)) (Nat.le_of_ble_eq_true rfl) ?_
  intro p ev s m args below meth c QQ hQ hsz X hr hlk w ls hl
  have hx := X.1
  have hb := X.2.1
  have hl : lv_has ls 3 [(0, .ref (ad k0)), (1, .int p1), (2, .int p2)] := hl
  unfold fX8_isOpen at hR
  refine lv_iload_n hx hb dX8_isOpen_0 rfl (lv_at hl 1 rfl) ?_
  refine lv_iload_n hx hb dX8_isOpen_1 rfl (lv_at hl 2 rfl) ?_
  refine lv_icmp_eq (tgt := 54) hx hb dX8_isOpen_2 (by decide) (fun c1 => ?_) (fun c1 => ?_)
  · rw [if_pos c1] at hR
    refine lv_iconst (v := 0) hx hb dX8_isOpen_54 (by decide) ?_
    rw [hQ]
    exact rt_i X hr hlk w hsz rfl rfl rfl (lf1 hR) dX8_isOpen_55
  · rw [if_neg c1] at hR
    refine lv_aload_n hx hb dX8_isOpen_5 rfl (lv_at hl 0 rfl) ?_
    refine lv_iload_n hx hb dX8_isOpen_6 rfl (lv_at hl 1 rfl) ?_
    obtain ⟨r3, h2, hR⟩ := bd_e hR
    refine cVi (k := k0) (As := [.int p1]) (rest := []) X hl.1 w okX8_isSold (obX8 hk0) rfl lmX8_61 (kX8_isSold hk0 h2) ⟨Nat.le_of_ble_eq_true rfl, Nat.le_of_ble_eq_true rfl⟩ ⟨rfl, rfl⟩ ⟨Nat.zero_le _, Nat.zero_le _⟩ rfl rfl (Nat.le_of_ble_eq_true rfl) dX8_isOpen_7 (fun H locs zr3 w => ?_)
    refine lv_if_ne (tgt := 54) hx hb dX8_isOpen_10 (by decide) (fun c4 => ?_) (fun c4 => ?_)
    · rw [if_neg c4] at hR
      refine lv_iconst (v := 0) hx hb dX8_isOpen_54 (by decide) ?_
      rw [hQ]
      exact rt_i X hr hlk w hsz rfl rfl rfl (lf1 hR) dX8_isOpen_55
    · rw [if_pos c4] at hR
      refine lv_aload_n hx hb dX8_isOpen_13 rfl (lv_at hl 0 rfl) ?_
      refine lv_iload_n hx hb dX8_isOpen_14 rfl (lv_at hl 2 rfl) ?_
      obtain ⟨r6, h5, hR⟩ := bd_e hR
      refine cVi (k := k0) (As := [.int p2]) (rest := []) X hl.1 w okX8_isSold (obX8 hk0) rfl lmX8_61 (kX8_isSold hk0 h5) ⟨Nat.le_of_ble_eq_true rfl, Nat.le_of_ble_eq_true rfl⟩ ⟨rfl, rfl⟩ ⟨Nat.zero_le _, Nat.zero_le _⟩ rfl rfl (Nat.le_of_ble_eq_true rfl) dX8_isOpen_15 (fun H locs zr6 w => ?_)
      refine lv_if_ne (tgt := 54) hx hb dX8_isOpen_18 (by decide) (fun c7 => ?_) (fun c7 => ?_)
      · rw [if_neg c7] at hR
        refine lv_iconst (v := 0) hx hb dX8_isOpen_54 (by decide) ?_
        rw [hQ]
        exact rt_i X hr hlk w hsz rfl rfl rfl (lf1 hR) dX8_isOpen_55
      · rw [if_pos c7] at hR
        refine lv_aload_n hx hb dX8_isOpen_21 rfl (lv_at hl 0 rfl) ?_
        refine gX8_behind hk0 X w lfX8_18 dX8_isOpen_22 ?_
        refine lv_iload_n hx hb dX8_isOpen_25 rfl (lv_at hl 1 rfl) ?_
        obtain ⟨g8, hR⟩ := ck_e hR
        refine ialS (n := 7) (ikX8_3 hk0) (lkX8_3 hk0) X w (nkX8_3 hk0) g8 dX8_isOpen_26 ?_
        refine lv_iconst (v := -1) hx hb dX8_isOpen_27 (by decide) ?_
        refine lv_icmp_ne (tgt := 54) hx hb dX8_isOpen_28 (by decide) (fun c9 => ?_) (fun c9 => ?_)
        · rw [if_neg c9] at hR
          refine lv_iconst (v := 0) hx hb dX8_isOpen_54 (by decide) ?_
          rw [hQ]
          exact rt_i X hr hlk w hsz rfl rfl rfl (lf1 hR) dX8_isOpen_55
        · rw [if_pos c9] at hR
          refine lv_aload_n hx hb dX8_isOpen_31 rfl (lv_at hl 0 rfl) ?_
          refine gX8_ahead hk0 X w lfX8_21 dX8_isOpen_32 ?_
          refine lv_iload_n hx hb dX8_isOpen_35 rfl (lv_at hl 2 rfl) ?_
          obtain ⟨g10, hR⟩ := ck_e hR
          refine ialS (n := 7) (ikX8_4 hk0) (lkX8_4 hk0) X w (nkX8_4 hk0) g10 dX8_isOpen_36 ?_
          refine lv_iconst (v := -1) hx hb dX8_isOpen_37 (by decide) ?_
          refine lv_icmp_ne (tgt := 54) hx hb dX8_isOpen_38 (by decide) (fun c11 => ?_) (fun c11 => ?_)
          · rw [if_neg c11] at hR
            refine lv_iconst (v := 0) hx hb dX8_isOpen_54 (by decide) ?_
            rw [hQ]
            exact rt_i X hr hlk w hsz rfl rfl rfl (lf1 hR) dX8_isOpen_55
          · rw [if_pos c11] at hR
            refine lv_aload_n hx hb dX8_isOpen_41 rfl (lv_at hl 0 rfl) ?_
            refine lv_iload_n hx hb dX8_isOpen_42 rfl (lv_at hl 1 rfl) ?_
            obtain ⟨r13, h12, hR⟩ := bd_e hR
            refine cVi (k := k0) (As := [.int p1]) (rest := []) X hl.1 w okX8_firstOf (obX8 hk0) rfl lmX8_71 (kX8_firstOf hk0 h12) ⟨Nat.le_of_ble_eq_true rfl, Nat.le_of_ble_eq_true rfl⟩ ⟨rfl, rfl⟩ ⟨Nat.zero_le _, Nat.zero_le _⟩ rfl rfl (Nat.le_of_ble_eq_true rfl) dX8_isOpen_43 (fun H locs zr13 w => ?_)
            refine lv_iload_n hx hb dX8_isOpen_46 rfl (lv_at hl 2 rfl) ?_
            refine lv_icmp_eq (tgt := 54) hx hb dX8_isOpen_47 (by decide) (fun c14 => ?_) (fun c14 => ?_)
            · rw [if_pos c14] at hR
              refine lv_iconst (v := 0) hx hb dX8_isOpen_54 (by decide) ?_
              rw [hQ]
              exact rt_i X hr hlk w hsz rfl rfl rfl (lf1 hR) dX8_isOpen_55
            · rw [if_neg c14] at hR
              refine lv_iconst (v := 1) hx hb dX8_isOpen_50 (by decide) ?_
              refine lv_goto (tgt := 55) hx hb dX8_isOpen_51 (by decide) ?_
              rw [hQ]
              exact rt_i X hr hlk w hsz rfl rfl rfl (lf1 hR) dX8_isOpen_55
/- LooseEnds$Judge.valueOf(I)I -/
def fX2_valueOf (N : Nat) (S : SS) (p1 : Int32) : Option (Int32) := lt (p1 - 10000) fun v1 =>
  if v1 < 0 then
  (some p1)
  else
  (if 6 ≤ v1 then
  (some p1)
  else
  (ck (inb v1 6) <|
  some (ga S 16 v1)))
set_option maxHeartbeats 4000000 in
set_option maxRecDepth 100000 in
theorem kX2_valueOf {l : Launch} {D : va_G} {dA : Nat → ClassId} {ad : Nat → Nat} {t1 t2 : Nat} {N : Nat} {S T : SS} {o : Nat → Int64} {p1 : Int32} {r : Int32} (hR : fX2_valueOf N S p1 = some r) : KI l D dA ad t1 t2 yX2_valueOf cX2_valueOf 3 .int { frames := 0, cells := 0, slots := 0, locals := 0 } [.ref (ad 14), .int p1] S T o r S T := by
  intro sz
  refine en_ (plainFor_of_name (by decide)) (Nat.le_of_ble_eq_true rfl) ?_
  intro p ev s m args below meth c QQ hQ hsz X hr hlk w ls hl
  have hx := X.1
  have hb := X.2.1
  have hl : lv_has ls 3 [(0, .ref (ad 14)), (1, .int p1)] := hl
  unfold fX2_valueOf at hR
  refine lv_iload_n hx hb dX2_valueOf_0 rfl (lv_at hl 1 rfl) ?_
  refine lv_sipush (v := 10000) hx hb dX2_valueOf_1 (by decide) ?_
  refine lv_isub hx hb dX2_valueOf_4 ?_
  obtain ⟨v1, ev1, hR⟩ := lt_e hR
  refine nm_i ev1 ?_
  refine lv_istore_n (lv' := [(2, .int v1), (0, .ref (ad 14)), (1, .int p1)]) hx hb dX2_valueOf_5 rfl hl (by decide) rfl (fun ls hl => ?_)
  refine lv_iload_n hx hb dX2_valueOf_6 rfl (lv_at hl 0 rfl) ?_
  refine lv_if_lt (tgt := 25) hx hb dX2_valueOf_7 (by decide) (fun c2 => ?_) (fun c2 => ?_)
  · rw [if_pos c2] at hR
    refine lv_iload_n hx hb dX2_valueOf_25 rfl (lv_at hl 2 rfl) ?_
    rw [hQ]
    exact rt_i X hr hlk w hsz rfl rfl rfl (lf1 hR) dX2_valueOf_26
  · rw [if_neg c2] at hR
    refine lv_iload_n hx hb dX2_valueOf_10 rfl (lv_at hl 0 rfl) ?_
    refine lv_bipush (v := 6) hx hb dX2_valueOf_11 (by decide) ?_
    refine lv_icmp_ge (tgt := 25) hx hb dX2_valueOf_13 (by decide) (fun c3 => ?_) (fun c3 => ?_)
    · rw [if_pos c3] at hR
      refine lv_iload_n hx hb dX2_valueOf_25 rfl (lv_at hl 2 rfl) ?_
      rw [hQ]
      exact rt_i X hr hlk w hsz rfl rfl rfl (lf1 hR) dX2_valueOf_26
    · rw [if_neg c3] at hR
      refine lv_aload_n hx hb dX2_valueOf_16 rfl (lv_at hl 1 rfl) ?_
      refine gX2_letters X w lfX2_16 dX2_valueOf_17 ?_
      refine lv_iload_n hx hb dX2_valueOf_20 rfl (lv_at hl 0 rfl) ?_
      obtain ⟨g4, hR⟩ := ck_e hR
      refine ialS (n := 6) rfl (by decide) X w rfl g4 dX2_valueOf_21 ?_
      refine lv_goto (tgt := 26) hx hb dX2_valueOf_22 (by decide) ?_
      rw [hQ]
      exact rt_i X hr hlk w hsz rfl rfl rfl (lf1 hR) dX2_valueOf_26
/- LooseEnds$Judge.reckon(IJJ)J -/
def fX2_reckon (N : Nat) (p0 : Int32) (p1 : Int64) (p3 : Int64) : Option (Int64) := if p0 = 10010 then
  (some (p1 + p3))
  else
  (if p0 = 10011 then
  (some (p1 - p3))
  else
  (if p0 = 10012 then
  (some (p1 * p3))
  else
  (if p0 = 10013 then
  (if (lg_cmp p3 0) = 0 then
  (some 0)
  else
  (ck (decide (¬ p3 = 0)) <|
  some (p1 / p3)))
  else
  (if p0 = 10014 then
  (if (lg_cmp p1 p3) = 0 then
  (some 1)
  else
  (some 0))
  else
  (if p0 = 10015 then
  (if 0 ≤ (lg_cmp p1 p3) then
  (some 0)
  else
  (some 1))
  else
  (if p0 = 10016 then
  (if (lg_cmp p1 p3) ≤ 0 then
  (some 0)
  else
  (some 1))
  else
  (if p0 = 10017 then
  (some (p1 &&& p3))
  else
  (some (p1 ||| p3)))))))))
set_option maxHeartbeats 4000000 in
set_option maxRecDepth 100000 in
theorem kX2_reckon {l : Launch} {D : va_G} {dA : Nat → ClassId} {ad : Nat → Nat} {t1 t2 : Nat} {N : Nat} {S T : SS} {o : Nat → Int64} {p0 : Int32} {p1 : Int64} {p3 : Int64} {r : Int64} (hR : fX2_reckon N p0 p1 p3 = some r) : KL l D dA ad t1 t2 yX2_reckon cX2_reckon 5 { frames := 0, cells := 0, slots := 0, locals := 0 } [.int p0, .long p1, .long p3] S T o r S T := by
  intro sz
  refine en_ (plainFor_of_name (by decide)) (Nat.le_of_ble_eq_true rfl) ?_
  intro p ev s m args below meth c QQ hQ hsz X hr hlk w ls hl
  have hx := X.1
  have hb := X.2.1
  have hl : lv_has ls 5 [(0, .int p0), (1, .long p1), (3, .long p3)] := hl
  unfold fX2_reckon at hR
  refine lv_iload_n hx hb dX2_reckon_0 rfl (lv_at hl 0 rfl) ?_
  by_cases c1_0 : p0 = 10010
  · rw [if_pos c1_0] at hR
    refine lv_tableIn (tgt := 48) hx hb dX2_reckon_1 (by rw [c1_0]; decide) (by rw [c1_0]; decide) (by rw [c1_0]; rfl) (by decide) ?_
    refine lv_lload_n hx hb dX2_reckon_48 rfl (lv_at hl 1 rfl) ?_
    refine lv_lload_n hx hb dX2_reckon_49 rfl (lv_at hl 2 rfl) ?_
    refine lv_ladd hx hb dX2_reckon_50 ?_
    rw [hQ]
    exact rt_l X hr hlk w hsz rfl rfl (lf1 hR) dX2_reckon_51
  · rw [if_neg c1_0] at hR
    by_cases c1_1 : p0 = 10011
    · rw [if_pos c1_1] at hR
      refine lv_tableIn (tgt := 52) hx hb dX2_reckon_1 (by rw [c1_1]; decide) (by rw [c1_1]; decide) (by rw [c1_1]; rfl) (by decide) ?_
      refine lv_lload_n hx hb dX2_reckon_52 rfl (lv_at hl 1 rfl) ?_
      refine lv_lload_n hx hb dX2_reckon_53 rfl (lv_at hl 2 rfl) ?_
      refine lv_lsub hx hb dX2_reckon_54 ?_
      rw [hQ]
      exact rt_l X hr hlk w hsz rfl rfl (lf1 hR) dX2_reckon_55
    · rw [if_neg c1_1] at hR
      by_cases c1_2 : p0 = 10012
      · rw [if_pos c1_2] at hR
        refine lv_tableIn (tgt := 56) hx hb dX2_reckon_1 (by rw [c1_2]; decide) (by rw [c1_2]; decide) (by rw [c1_2]; rfl) (by decide) ?_
        refine lv_lload_n hx hb dX2_reckon_56 rfl (lv_at hl 1 rfl) ?_
        refine lv_lload_n hx hb dX2_reckon_57 rfl (lv_at hl 2 rfl) ?_
        refine lv_lmul hx hb dX2_reckon_58 ?_
        rw [hQ]
        exact rt_l X hr hlk w hsz rfl rfl (lf1 hR) dX2_reckon_59
      · rw [if_neg c1_2] at hR
        by_cases c1_3 : p0 = 10013
        · rw [if_pos c1_3] at hR
          refine lv_tableIn (tgt := 60) hx hb dX2_reckon_1 (by rw [c1_3]; decide) (by rw [c1_3]; decide) (by rw [c1_3]; rfl) (by decide) ?_
          refine lv_lload_n hx hb dX2_reckon_60 rfl (lv_at hl 2 rfl) ?_
          refine lv_lconst (v := 0) hx hb dX2_reckon_61 (by decide) ?_
          refine W.lcmp hx hb dX2_reckon_62 ?_
          refine lv_if_ne (tgt := 70) hx hb dX2_reckon_63 (by decide) (fun c2 => ?_) (fun c2 => ?_)
          · rw [if_neg c2] at hR
            refine lv_lload_n hx hb dX2_reckon_70 rfl (lv_at hl 1 rfl) ?_
            refine lv_lload_n hx hb dX2_reckon_71 rfl (lv_at hl 2 rfl) ?_
            obtain ⟨g3, hR⟩ := ck_e hR
            refine lv_ldiv hx hb dX2_reckon_72 (of_decide_eq_true g3) ?_
            rw [hQ]
            exact rt_l X hr hlk w hsz rfl rfl (lf1 hR) dX2_reckon_73
          · rw [if_pos c2] at hR
            refine lv_lconst (v := 0) hx hb dX2_reckon_66 (by decide) ?_
            refine lv_goto (tgt := 73) hx hb dX2_reckon_67 (by decide) ?_
            rw [hQ]
            exact rt_l X hr hlk w hsz rfl rfl (lf1 hR) dX2_reckon_73
        · rw [if_neg c1_3] at hR
          by_cases c1_4 : p0 = 10014
          · rw [if_pos c1_4] at hR
            refine lv_tableIn (tgt := 74) hx hb dX2_reckon_1 (by rw [c1_4]; decide) (by rw [c1_4]; decide) (by rw [c1_4]; rfl) (by decide) ?_
            refine lv_lload_n hx hb dX2_reckon_74 rfl (lv_at hl 1 rfl) ?_
            refine lv_lload_n hx hb dX2_reckon_75 rfl (lv_at hl 2 rfl) ?_
            refine W.lcmp hx hb dX2_reckon_76 ?_
            refine lv_if_ne (tgt := 84) hx hb dX2_reckon_77 (by decide) (fun c4 => ?_) (fun c4 => ?_)
            · rw [if_neg c4] at hR
              refine lv_lconst (v := 0) hx hb dX2_reckon_84 (by decide) ?_
              rw [hQ]
              exact rt_l X hr hlk w hsz rfl rfl (lf1 hR) dX2_reckon_85
            · rw [if_pos c4] at hR
              refine lv_lconst (v := 1) hx hb dX2_reckon_80 (by decide) ?_
              refine lv_goto (tgt := 85) hx hb dX2_reckon_81 (by decide) ?_
              rw [hQ]
              exact rt_l X hr hlk w hsz rfl rfl (lf1 hR) dX2_reckon_85
          · rw [if_neg c1_4] at hR
            by_cases c1_5 : p0 = 10015
            · rw [if_pos c1_5] at hR
              refine lv_tableIn (tgt := 86) hx hb dX2_reckon_1 (by rw [c1_5]; decide) (by rw [c1_5]; decide) (by rw [c1_5]; rfl) (by decide) ?_
              refine lv_lload_n hx hb dX2_reckon_86 rfl (lv_at hl 1 rfl) ?_
              refine lv_lload_n hx hb dX2_reckon_87 rfl (lv_at hl 2 rfl) ?_
              refine W.lcmp hx hb dX2_reckon_88 ?_
              refine lv_if_ge (tgt := 96) hx hb dX2_reckon_89 (by decide) (fun c5 => ?_) (fun c5 => ?_)
              · rw [if_pos c5] at hR
                refine lv_lconst (v := 0) hx hb dX2_reckon_96 (by decide) ?_
                rw [hQ]
                exact rt_l X hr hlk w hsz rfl rfl (lf1 hR) dX2_reckon_97
              · rw [if_neg c5] at hR
                refine lv_lconst (v := 1) hx hb dX2_reckon_92 (by decide) ?_
                refine lv_goto (tgt := 97) hx hb dX2_reckon_93 (by decide) ?_
                rw [hQ]
                exact rt_l X hr hlk w hsz rfl rfl (lf1 hR) dX2_reckon_97
            · rw [if_neg c1_5] at hR
              by_cases c1_6 : p0 = 10016
              · rw [if_pos c1_6] at hR
                refine lv_tableIn (tgt := 98) hx hb dX2_reckon_1 (by rw [c1_6]; decide) (by rw [c1_6]; decide) (by rw [c1_6]; rfl) (by decide) ?_
                refine lv_lload_n hx hb dX2_reckon_98 rfl (lv_at hl 1 rfl) ?_
                refine lv_lload_n hx hb dX2_reckon_99 rfl (lv_at hl 2 rfl) ?_
                refine W.lcmp hx hb dX2_reckon_100 ?_
                refine lv_if_le (tgt := 108) hx hb dX2_reckon_101 (by decide) (fun c6 => ?_) (fun c6 => ?_)
                · rw [if_pos c6] at hR
                  refine lv_lconst (v := 0) hx hb dX2_reckon_108 (by decide) ?_
                  rw [hQ]
                  exact rt_l X hr hlk w hsz rfl rfl (lf1 hR) dX2_reckon_109
                · rw [if_neg c6] at hR
                  refine lv_lconst (v := 1) hx hb dX2_reckon_104 (by decide) ?_
                  refine lv_goto (tgt := 109) hx hb dX2_reckon_105 (by decide) ?_
                  rw [hQ]
                  exact rt_l X hr hlk w hsz rfl rfl (lf1 hR) dX2_reckon_109
              · rw [if_neg c1_6] at hR
                by_cases c1_7 : p0 = 10017
                · rw [if_pos c1_7] at hR
                  refine lv_tableIn (tgt := 110) hx hb dX2_reckon_1 (by rw [c1_7]; decide) (by rw [c1_7]; decide) (by rw [c1_7]; rfl) (by decide) ?_
                  refine lv_lload_n hx hb dX2_reckon_110 rfl (lv_at hl 1 rfl) ?_
                  refine lv_lload_n hx hb dX2_reckon_111 rfl (lv_at hl 2 rfl) ?_
                  refine lv_land hx hb dX2_reckon_112 ?_
                  rw [hQ]
                  exact rt_l X hr hlk w hsz rfl rfl (lf1 hR) dX2_reckon_113
                · rw [if_neg c1_7] at hR
                  have hh0 := ne_int (n := 10010) (by decide) c1_0
                  have hh1 := ne_int (n := 10011) (by decide) c1_1
                  have hh2 := ne_int (n := 10012) (by decide) c1_2
                  have hh3 := ne_int (n := 10013) (by decide) c1_3
                  have hh4 := ne_int (n := 10014) (by decide) c1_4
                  have hh5 := ne_int (n := 10015) (by decide) c1_5
                  have hh6 := ne_int (n := 10016) (by decide) c1_6
                  have hh7 := ne_int (n := 10017) (by decide) c1_7
                  refine lv_tableOut (tgt := 114) hx hb dX2_reckon_1 (by omega) (by decide) ?_
                  refine lv_lload_n hx hb dX2_reckon_114 rfl (lv_at hl 1 rfl) ?_
                  refine lv_lload_n hx hb dX2_reckon_115 rfl (lv_at hl 2 rfl) ?_
                  refine lv_lor hx hb dX2_reckon_116 ?_
                  rw [hQ]
                  exact rt_l X hr hlk w hsz rfl rfl (lf1 hR) dX2_reckon_117
/- LooseEnds$Judge.worth([I)I -/
def fX2_worth_l4 (N : Nat) (q1 : Nat) : Nat → Int32 → Int32 → SS → Option (SS × Int32)
  | 0, _, _, _ => none
  | n + 1, x2, x3, S => if (Int32.ofNat (aln S.2.2 q1)) ≤ x3 then
  (some (S, 0))
  else
  (ck (inb x3 (aln S.2.2 q1)) <|
  lt (ga S q1 x3) fun v3 =>
  if 10010 ≤ v3 then
  (if 10019 ≤ v3 then
  (if 1 ≤ x2 then
  (if v3 = 10019 then
  (ck (inb (x2 - 1) 64) <|
  ck (inb (x2 - 1) 64) <|
  lt (pa S 17 (x2 - 1) (1 - (ga S 17 (x2 - 1)))) fun S18 =>
  lt (x3 + 1) fun v19 =>
  fX2_worth_l4 N q1 n x2 v19 S18)
  else
  (if v3 = 10020 then
  (ck (inb (x2 - 1) 64) <|
  some (S, ga S 17 (x2 - 1)))
  else
  (lt (x2 + (-1)) fun v9 =>
  ck (inb v9 64) <|
  if (ga S 17 v9) = 0 then
  (lt (mx x3 ((v3 - 20000) - 1)) fun v13 =>
  lt (v13 + 1) fun v14 =>
  fX2_worth_l4 N q1 n v9 v14 S)
  else
  (lt (x3 + 1) fun v12 =>
  fX2_worth_l4 N q1 n v9 v12 S))))
  else
  (some (S, 0)))
  else
  (if 2 ≤ x2 then
  (lt (x2 + (-1)) fun v21 =>
  ck (inb (v21 - 1) 64) <|
  ck (inb v21 64) <|
  bd (fX2_reckon N v3 ((ga S 17 (v21 - 1) : Int32).toInt64) ((ga S 17 v21 : Int32).toInt64)) fun r25 =>
  ck (inb (v21 - 1) 64) <|
  lt (pa S 17 (v21 - 1) ((lmx (-1000000) (lmn 1000000 r25) : Int64).toInt32)) fun S27 =>
  lt (x3 + 1) fun v28 =>
  fX2_worth_l4 N q1 n v21 v28 S27)
  else
  (some (S, 0))))
  else
  (if x2 < 64 then
  (bd (fX2_valueOf N S v3) fun r31 =>
  ck (inb x2 64) <|
  lt (pa S 17 x2 r31) fun S33 =>
  lt (x2 + 1) fun v34 =>
  lt (x3 + 1) fun v35 =>
  fX2_worth_l4 N q1 n v34 v35 S33)
  else
  (some (S, 0))))
def fX2_worth (N : Nat) (S : SS) (q1 : Nat) : Option (SS × Int32) := fX2_worth_l4 N q1 N 0 0 S
set_option maxHeartbeats 4000000 in
set_option maxRecDepth 100000 in
theorem kX2_worth {l : Launch} {D : va_G} {dA : Nat → ClassId} {ad : Nat → Nat} {t1 t2 : Nat} {N : Nat} {q1 : Nat} (hq1 : inK q1 = true ∧ q1 < 52) {S T : SS} {o : Nat → Int64} {r : Int32} {S' : SS} (hR : fX2_worth N S q1 = some (S', r)) : KI l D dA ad t1 t2 yX2_worth cX2_worth 7 .int { frames := 1, cells := 0, slots := 0, locals := 24 } [.ref (ad 14), .ref (ad q1)] S T o r S' T := by
  intro sz
  refine en_ (plainFor_of_name (by decide)) (Nat.le_of_ble_eq_true rfl) ?_
  intro p ev s m args below meth c QQ hQ hsz X hr hlk w ls hl
  have hx := X.1
  have hb := X.2.1
  have L4 : ∀ (n : Nat), ∀ (x2 : Int32) (x3 : Int32) (S : SS), fX2_worth_l4 N q1 n x2 x3 S = some (S', r) → WAT p l ev ({ frames := 1, cells := 0, slots := 0, locals := 24 } : Room) s m args below meth c QQ 7 D dA ad t1 t2 S T o 4 [(0, .ref (ad 14)), (1, .ref (ad q1)), (2, .int x2), (3, .int x3)] [] := by
    intro n
    induction n with
    | zero =>
      intro x2 x3 S hR
      exact nomatch hR
    | succ n ih =>
      intro x2 x3 S hR H locs ls w hl
      rw [fX2_worth_l4] at hR
      refine lv_iload_n hx hb dX2_worth_4 rfl (lv_at hl 3 rfl) ?_
      refine lv_aload_n hx hb dX2_worth_5 rfl (lv_at hl 1 rfl) ?_
      refine lenS hq1.1 hq1.2 X w rfl dX2_worth_6 ?_
      refine lv_icmp_ge (tgt := 204) hx hb dX2_worth_7 (by decide) (fun c1 => ?_) (fun c1 => ?_)
      · rw [if_pos c1] at hR
        refine lv_iconst (v := 0) hx hb dX2_worth_204 (by decide) ?_
        rw [hQ]
        exact rt_i X hr hlk w hsz rfl (lf2 hR).1 rfl (lf2 hR).2 dX2_worth_205
      · rw [if_neg c1] at hR
        refine lv_aload_n hx hb dX2_worth_10 rfl (lv_at hl 1 rfl) ?_
        refine lv_iload_n hx hb dX2_worth_11 rfl (lv_at hl 3 rfl) ?_
        obtain ⟨g2, hR⟩ := ck_e hR
        refine ialS (n := (aln S.2.2 q1)) hq1.1 hq1.2 X w rfl g2 dX2_worth_12 ?_
        obtain ⟨v3, ev3, hR⟩ := lt_e hR
        refine nm_i ev3 ?_
        refine lv_istore (lv' := [(4, .int v3), (0, .ref (ad 14)), (1, .ref (ad q1)), (2, .int x2), (3, .int x3)]) hx hb dX2_worth_13 hl (by decide) rfl (fun ls hl => ?_)
        refine lv_iload hx hb dX2_worth_15 (lv_at hl 0 rfl) ?_
        refine lv_sipush (v := 10010) hx hb dX2_worth_17 (by decide) ?_
        refine lv_icmp_ge (tgt := 49) hx hb dX2_worth_20 (by decide) (fun c4 => ?_) (fun c4 => ?_)
        · rw [if_pos c4] at hR
          refine lv_iload hx hb dX2_worth_49 (lv_at hl 0 rfl) ?_
          refine lv_sipush (v := 10019) hx hb dX2_worth_51 (by decide) ?_
          refine lv_icmp_ge (tgt := 116) hx hb dX2_worth_54 (by decide) (fun c5 => ?_) (fun c5 => ?_)
          · rw [if_pos c5] at hR
            refine lv_iload_n hx hb dX2_worth_116 rfl (lv_at hl 3 rfl) ?_
            refine lv_iconst (v := 1) hx hb dX2_worth_117 (by decide) ?_
            refine lv_icmp_ge (tgt := 123) hx hb dX2_worth_118 (by decide) (fun c6 => ?_) (fun c6 => ?_)
            · rw [if_pos c6] at hR
              refine lv_iload hx hb dX2_worth_123 (lv_at hl 0 rfl) ?_
              refine lv_sipush (v := 10019) hx hb dX2_worth_125 (by decide) ?_
              refine lv_icmp_ne (tgt := 152) hx hb dX2_worth_128 (by decide) (fun c7 => ?_) (fun c7 => ?_)
              · rw [if_neg c7] at hR
                refine lv_iload hx hb dX2_worth_152 (lv_at hl 0 rfl) ?_
                refine lv_sipush (v := 10020) hx hb dX2_worth_154 (by decide) ?_
                refine lv_icmp_ne (tgt := 169) hx hb dX2_worth_157 (by decide) (fun c8 => ?_) (fun c8 => ?_)
                · rw [if_neg c8] at hR
                  obtain ⟨v9, ev9, hR⟩ := lt_e hR
                  refine lv_iinc (v := v9) (lv' := [(2, .int v9), (4, .int v3), (0, .ref (ad 14)), (1, .ref (ad q1)), (3, .int x3)]) hx hb dX2_worth_169 hl (k := 3) rfl (by rw [ev9]; rfl) (by decide) rfl (fun ls hl => ?_)
                  refine lv_aload_n hx hb dX2_worth_172 rfl (lv_at hl 2 rfl) ?_
                  refine gX2_stack X w lfX2_20 dX2_worth_173 ?_
                  refine lv_iload_n hx hb dX2_worth_176 rfl (lv_at hl 0 rfl) ?_
                  obtain ⟨g10, hR⟩ := ck_e hR
                  refine ialS (n := 64) rfl (by decide) X w rfl g10 dX2_worth_177 ?_
                  refine lv_if_ne (tgt := 196) hx hb dX2_worth_178 (by decide) (fun c11 => ?_) (fun c11 => ?_)
                  · rw [if_neg c11] at hR
                    refine lv_iload_n hx hb dX2_worth_196 rfl (lv_at hl 4 rfl) ?_
                    refine lv_istore_n (lv' := [(3, .int x3), (2, .int v9), (4, .int v3), (0, .ref (ad 14)), (1, .ref (ad q1))]) hx hb dX2_worth_197 rfl hl (by decide) rfl (fun ls hl => ?_)
                    obtain ⟨v12, ev12, hR⟩ := lt_e hR
                    refine lv_iinc (v := v12) (lv' := [(3, .int v12), (2, .int v9), (4, .int v3), (0, .ref (ad 14)), (1, .ref (ad q1))]) hx hb dX2_worth_198 hl (k := 0) rfl (by rw [ev12]; rfl) (by decide) rfl (fun ls hl => ?_)
                    refine lv_goto (tgt := 4) hx hb dX2_worth_201 (by decide) ?_
                    exact ih v9 v12 S hR _ _ _ w (lv_sub hl [3, 4, 1, 0] rfl)
                  · rw [if_pos c11] at hR
                    refine lv_iload_n hx hb dX2_worth_181 rfl (lv_at hl 4 rfl) ?_
                    refine lv_iload hx hb dX2_worth_182 (lv_at hl 1 rfl) ?_
                    refine lv_sipush (v := 20000) hx hb dX2_worth_184 (by decide) ?_
                    refine lv_isub hx hb dX2_worth_187 ?_
                    refine lv_iconst (v := 1) hx hb dX2_worth_188 (by decide) ?_
                    refine lv_isub hx hb dX2_worth_189 ?_
                    refine mxI X hl.1 lmX2_70 ⟨Nat.le_of_ble_eq_true rfl, Nat.le_of_ble_eq_true rfl⟩ ⟨Nat.zero_le _, Nat.zero_le _⟩ dX2_worth_190 ?_
                    refine lv_goto (tgt := 197) hx hb dX2_worth_193 (by decide) ?_
                    obtain ⟨v13, ev13, hR⟩ := lt_e hR
                    refine nm_i ev13 ?_
                    refine lv_istore_n (lv' := [(3, .int v13), (2, .int v9), (4, .int v3), (0, .ref (ad 14)), (1, .ref (ad q1))]) hx hb dX2_worth_197 rfl hl (by decide) rfl (fun ls hl => ?_)
                    obtain ⟨v14, ev14, hR⟩ := lt_e hR
                    refine lv_iinc (v := v14) (lv' := [(3, .int v14), (2, .int v9), (4, .int v3), (0, .ref (ad 14)), (1, .ref (ad q1))]) hx hb dX2_worth_198 hl (k := 0) rfl (by rw [ev14]; rfl) (by decide) rfl (fun ls hl => ?_)
                    refine lv_goto (tgt := 4) hx hb dX2_worth_201 (by decide) ?_
                    exact ih v9 v14 S hR _ _ _ w (lv_sub hl [3, 4, 1, 0] rfl)
                · rw [if_pos c8] at hR
                  refine lv_aload_n hx hb dX2_worth_160 rfl (lv_at hl 1 rfl) ?_
                  refine gX2_stack X w lfX2_20 dX2_worth_161 ?_
                  refine lv_iload_n hx hb dX2_worth_164 rfl (lv_at hl 3 rfl) ?_
                  refine lv_iconst (v := 1) hx hb dX2_worth_165 (by decide) ?_
                  refine lv_isub hx hb dX2_worth_166 ?_
                  obtain ⟨g15, hR⟩ := ck_e hR
                  refine ialS (n := 64) rfl (by decide) X w rfl g15 dX2_worth_167 ?_
                  rw [hQ]
                  exact rt_i X hr hlk w hsz rfl (lf2 hR).1 rfl (lf2 hR).2 dX2_worth_168
              · rw [if_pos c7] at hR
                refine lv_aload_n hx hb dX2_worth_131 rfl (lv_at hl 1 rfl) ?_
                refine gX2_stack X w lfX2_20 dX2_worth_132 ?_
                refine lv_iload_n hx hb dX2_worth_135 rfl (lv_at hl 3 rfl) ?_
                refine lv_iconst (v := 1) hx hb dX2_worth_136 (by decide) ?_
                refine lv_isub hx hb dX2_worth_137 ?_
                refine lv_iconst (v := 1) hx hb dX2_worth_138 (by decide) ?_
                refine lv_aload_n hx hb dX2_worth_139 rfl (lv_at hl 1 rfl) ?_
                refine gX2_stack X w lfX2_20 dX2_worth_140 ?_
                refine lv_iload_n hx hb dX2_worth_143 rfl (lv_at hl 3 rfl) ?_
                refine lv_iconst (v := 1) hx hb dX2_worth_144 (by decide) ?_
                refine lv_isub hx hb dX2_worth_145 ?_
                obtain ⟨g16, hR⟩ := ck_e hR
                refine ialS (n := 64) rfl (by decide) X w rfl g16 dX2_worth_146 ?_
                refine lv_isub hx hb dX2_worth_147 ?_
                obtain ⟨g17, hR⟩ := ck_e hR
                obtain ⟨S18, eS18, hR⟩ := lt_e hR
                refine iasS (n := 64) rfl (by decide) X w rfl g17 dX2_worth_148 (fun H locs w => ?_)
                rw [← eS18] at w
                refine lv_goto (tgt := 198) hx hb dX2_worth_149 (by decide) ?_
                obtain ⟨v19, ev19, hR⟩ := lt_e hR
                refine lv_iinc (v := v19) (lv' := [(3, .int v19), (4, .int v3), (0, .ref (ad 14)), (1, .ref (ad q1)), (2, .int x2)]) hx hb dX2_worth_198 hl (k := 4) rfl (by rw [ev19]; rfl) (by decide) rfl (fun ls hl => ?_)
                refine lv_goto (tgt := 4) hx hb dX2_worth_201 (by decide) ?_
                exact ih x2 v19 S18 hR _ _ _ w (lv_sub hl [2, 3, 4, 0] rfl)
            · rw [if_neg c6] at hR
              refine lv_iconst (v := 0) hx hb dX2_worth_121 (by decide) ?_
              rw [hQ]
              exact rt_i X hr hlk w hsz rfl (lf2 hR).1 rfl (lf2 hR).2 dX2_worth_122
          · rw [if_neg c5] at hR
            refine lv_iload_n hx hb dX2_worth_57 rfl (lv_at hl 3 rfl) ?_
            refine lv_iconst (v := 2) hx hb dX2_worth_58 (by decide) ?_
            refine lv_icmp_ge (tgt := 64) hx hb dX2_worth_59 (by decide) (fun c20 => ?_) (fun c20 => ?_)
            · rw [if_pos c20] at hR
              obtain ⟨v21, ev21, hR⟩ := lt_e hR
              refine lv_iinc (v := v21) (lv' := [(2, .int v21), (4, .int v3), (0, .ref (ad 14)), (1, .ref (ad q1)), (3, .int x3)]) hx hb dX2_worth_64 hl (k := 3) rfl (by rw [ev21]; rfl) (by decide) rfl (fun ls hl => ?_)
              refine lv_iload hx hb dX2_worth_67 (lv_at hl 1 rfl) ?_
              refine lv_aload_n hx hb dX2_worth_69 rfl (lv_at hl 2 rfl) ?_
              refine gX2_stack X w lfX2_20 dX2_worth_70 ?_
              refine lv_iload_n hx hb dX2_worth_73 rfl (lv_at hl 0 rfl) ?_
              refine lv_iconst (v := 1) hx hb dX2_worth_74 (by decide) ?_
              refine lv_isub hx hb dX2_worth_75 ?_
              obtain ⟨g22, hR⟩ := ck_e hR
              refine ialS (n := 64) rfl (by decide) X w rfl g22 dX2_worth_76 ?_
              refine lv_i2l hx hb dX2_worth_77 rfl ?_
              refine lv_aload_n hx hb dX2_worth_78 rfl (lv_at hl 2 rfl) ?_
              refine gX2_stack X w lfX2_20 dX2_worth_79 ?_
              refine lv_iload_n hx hb dX2_worth_82 rfl (lv_at hl 0 rfl) ?_
              obtain ⟨g23, hR⟩ := ck_e hR
              refine ialS (n := 64) rfl (by decide) X w rfl g23 dX2_worth_83 ?_
              refine lv_i2l hx hb dX2_worth_84 rfl ?_
              obtain ⟨r25, h24, hR⟩ := bd_e hR
              refine cSl (As := [.int v3, .long ((ga S 17 (v21 - 1) : Int32).toInt64), .long ((ga S 17 v21 : Int32).toInt64)]) (rest := []) X hl.1 w okX2_reckon lmX2_53 (kX2_reckon h24) ⟨Nat.le_of_ble_eq_true rfl, Nat.le_of_ble_eq_true rfl⟩ ⟨rfl, rfl⟩ ⟨Nat.zero_le _, Nat.zero_le _⟩ rfl rfl (Nat.le_of_ble_eq_true rfl) dX2_worth_85 (fun H locs w => ?_)
              refine lv_lstore (lv' := [(5, .long r25), (2, .int v21), (4, .int v3), (0, .ref (ad 14)), (1, .ref (ad q1)), (3, .int x3)]) hx hb dX2_worth_88 hl (by decide) rfl (fun ls hl => ?_)
              refine lv_aload_n hx hb dX2_worth_90 rfl (lv_at hl 3 rfl) ?_
              refine gX2_stack X w lfX2_20 dX2_worth_91 ?_
              refine lv_iload_n hx hb dX2_worth_94 rfl (lv_at hl 1 rfl) ?_
              refine lv_iconst (v := 1) hx hb dX2_worth_95 (by decide) ?_
              refine lv_isub hx hb dX2_worth_96 ?_
              refine lv_ldc2 X.1 X.2.1 X.2.2.2.1 (X.2.2.2.2 _ lcX2_57) dX2_worth_97 ?_
              refine lv_ldc2 X.1 X.2.1 X.2.2.2.1 (X.2.2.2.2 _ lcX2_59) dX2_worth_100 ?_
              refine lv_lload hx hb dX2_worth_103 (lv_at hl 0 rfl) ?_
              refine mnL X hl.1 lmX2_61 ⟨Nat.le_of_ble_eq_true rfl, Nat.le_of_ble_eq_true rfl⟩ ⟨Nat.zero_le _, Nat.zero_le _⟩ dX2_worth_105 ?_
              refine mxL X hl.1 lmX2_67 ⟨Nat.le_of_ble_eq_true rfl, Nat.le_of_ble_eq_true rfl⟩ ⟨Nat.zero_le _, Nat.zero_le _⟩ dX2_worth_108 ?_
              refine lv_l2i hx hb dX2_worth_111 rfl ?_
              obtain ⟨g26, hR⟩ := ck_e hR
              obtain ⟨S27, eS27, hR⟩ := lt_e hR
              refine iasS (n := 64) rfl (by decide) X w rfl g26 dX2_worth_112 (fun H locs w => ?_)
              rw [← eS27] at w
              refine lv_goto (tgt := 198) hx hb dX2_worth_113 (by decide) ?_
              obtain ⟨v28, ev28, hR⟩ := lt_e hR
              refine lv_iinc (v := v28) (lv' := [(3, .int v28), (5, .long r25), (2, .int v21), (4, .int v3), (0, .ref (ad 14)), (1, .ref (ad q1))]) hx hb dX2_worth_198 hl (k := 5) rfl (by rw [ev28]; rfl) (by decide) rfl (fun ls hl => ?_)
              refine lv_goto (tgt := 4) hx hb dX2_worth_201 (by decide) ?_
              exact ih v21 v28 S27 hR _ _ _ w (lv_sub hl [4, 5, 2, 0] rfl)
            · rw [if_neg c20] at hR
              refine lv_iconst (v := 0) hx hb dX2_worth_62 (by decide) ?_
              rw [hQ]
              exact rt_i X hr hlk w hsz rfl (lf2 hR).1 rfl (lf2 hR).2 dX2_worth_63
        · rw [if_neg c4] at hR
          refine lv_iload_n hx hb dX2_worth_23 rfl (lv_at hl 3 rfl) ?_
          refine lv_bipush (v := 64) hx hb dX2_worth_24 (by decide) ?_
          refine lv_icmp_lt (tgt := 31) hx hb dX2_worth_26 (by decide) (fun c29 => ?_) (fun c29 => ?_)
          · rw [if_pos c29] at hR
            refine lv_aload_n hx hb dX2_worth_31 rfl (lv_at hl 1 rfl) ?_
            refine gX2_stack X w lfX2_20 dX2_worth_32 ?_
            refine lv_iload_n hx hb dX2_worth_35 rfl (lv_at hl 3 rfl) ?_
            refine lv_aload_n hx hb dX2_worth_36 rfl (lv_at hl 1 rfl) ?_
            refine lv_iload hx hb dX2_worth_37 (lv_at hl 0 rfl) ?_
            obtain ⟨r31, h30, hR⟩ := bd_e hR
            refine cVi (k := 14) (As := [.int v3]) (rest := [.int x2, .ref (ad 17)]) X hl.1 w okX2_valueOf obX2 rfl lmX2_49 (kX2_valueOf h30) ⟨Nat.le_of_ble_eq_true rfl, Nat.le_of_ble_eq_true rfl⟩ ⟨rfl, rfl⟩ ⟨Nat.zero_le _, Nat.zero_le _⟩ rfl rfl (Nat.le_of_ble_eq_true rfl) dX2_worth_39 (fun H locs zr31 w => ?_)
            obtain ⟨g32, hR⟩ := ck_e hR
            obtain ⟨S33, eS33, hR⟩ := lt_e hR
            refine iasS (n := 64) rfl (by decide) X w rfl g32 dX2_worth_42 (fun H locs w => ?_)
            rw [← eS33] at w
            obtain ⟨v34, ev34, hR⟩ := lt_e hR
            refine lv_iinc (v := v34) (lv' := [(2, .int v34), (4, .int v3), (0, .ref (ad 14)), (1, .ref (ad q1)), (3, .int x3)]) hx hb dX2_worth_43 hl (k := 3) rfl (by rw [ev34]; rfl) (by decide) rfl (fun ls hl => ?_)
            refine lv_goto (tgt := 198) hx hb dX2_worth_46 (by decide) ?_
            obtain ⟨v35, ev35, hR⟩ := lt_e hR
            refine lv_iinc (v := v35) (lv' := [(3, .int v35), (2, .int v34), (4, .int v3), (0, .ref (ad 14)), (1, .ref (ad q1))]) hx hb dX2_worth_198 hl (k := 4) rfl (by rw [ev35]; rfl) (by decide) rfl (fun ls hl => ?_)
            refine lv_goto (tgt := 4) hx hb dX2_worth_201 (by decide) ?_
            exact ih v34 v35 S33 hR _ _ _ w (lv_sub hl [3, 4, 1, 0] rfl)
          · rw [if_neg c29] at hR
            refine lv_iconst (v := 0) hx hb dX2_worth_29 (by decide) ?_
            rw [hQ]
            exact rt_i X hr hlk w hsz rfl (lf2 hR).1 rfl (lf2 hR).2 dX2_worth_30
  have hl : lv_has ls 7 [(0, .ref (ad 14)), (1, .ref (ad q1))] := hl
  unfold fX2_worth at hR
  refine lv_iconst (v := 0) hx hb dX2_worth_0 (by decide) ?_
  refine lv_istore_n (lv' := [(2, .int 0), (0, .ref (ad 14)), (1, .ref (ad q1))]) hx hb dX2_worth_1 rfl hl (by decide) rfl (fun ls hl => ?_)
  refine lv_iconst (v := 0) hx hb dX2_worth_2 (by decide) ?_
  refine lv_istore_n (lv' := [(3, .int 0), (2, .int 0), (0, .ref (ad 14)), (1, .ref (ad q1))]) hx hb dX2_worth_3 rfl hl (by decide) rfl (fun ls hl => ?_)
  exact L4 N 0 0 S hR _ _ _ w (lv_sub hl [2, 3, 1, 0] rfl)
/- LooseEnds$Judge.allows(IIIII)Z -/
def fX2_allows_j18 (N : Nat) (x1 : Int32) (x2 : Int32) (S : SS) : Option (SS × Int32) := if ((((gi S 3 1) + 1) - x1) - (2 * x2)) ≤ 0 then
  (some (S, 0))
  else
  (some (S, 1))
def fX2_allows (N : Nat) (S : SS) (p1 : Int32) (p2 : Int32) (p3 : Int32) (p4 : Int32) (p5 : Int32) : Option (SS × Int32) := if (gi S 14 5) < 0 then
  (fX2_allows_j18 N p1 p2 S)
  else
  (if (gi S 14 5) < (gi S 14 4) then
  (lt (pa S 16 0 p1) fun S3 =>
  lt (pa S3 16 1 p2) fun S4 =>
  lt (pa S4 16 2 p3) fun S5 =>
  lt (pa S5 16 3 (gi S5 3 1)) fun S6 =>
  lt (pa S6 16 4 p4) fun S7 =>
  lt (pa S7 16 5 p5) fun S8 =>
  ck (inb (gi S8 14 5) 4) <|
  b2 (fX2_worth N S8 (48 + (gi S8 14 5 : Int32).toNatClampNeg)) fun S12 r11 =>
  if r11 ≤ 0 then
  (some (S12, 0))
  else
  (some (S12, 1)))
  else
  (fX2_allows_j18 N p1 p2 S))
set_option maxHeartbeats 4000000 in
set_option maxRecDepth 100000 in
theorem kX2_allows {l : Launch} {D : va_G} {dA : Nat → ClassId} {ad : Nat → Nat} {t1 t2 : Nat} {N : Nat} {S T : SS} {o : Nat → Int64} {p1 : Int32} {p2 : Int32} {p3 : Int32} {p4 : Int32} {p5 : Int32} {r : Int32} {S' : SS} (hR : fX2_allows N S p1 p2 p3 p4 p5 = some (S', r)) : KI l D dA ad t1 t2 yX2_allows cX2_allows 6 .boolean { frames := 2, cells := 0, slots := 0, locals := 50 } [.ref (ad 14), .int p1, .int p2, .int p3, .int p4, .int p5] S T o r S' T := by
  intro sz
  refine en_ (plainFor_of_name (by decide)) (Nat.le_of_ble_eq_true rfl) ?_
  intro p ev s m args below meth c QQ hQ hsz X hr hlk w ls hl
  have hx := X.1
  have hb := X.2.1
  have J18 : ∀ (x1 : Int32) (x2 : Int32) (S : SS), fX2_allows_j18 N x1 x2 S = some (S', r) → WAT p l ev ({ frames := 2, cells := 0, slots := 0, locals := 50 } : Room) s m args below meth c QQ 6 D dA ad t1 t2 S T o 18 [(0, .ref (ad 14)), (1, .int x1), (2, .int x2)] [] := by
    intro x1 x2 S hR H locs ls w hl
    unfold fX2_allows_j18 at hR
    refine lv_aload_n hx hb dX2_allows_18 rfl (lv_at hl 0 rfl) ?_
    refine gX2_mill X w lfX2_27 dX2_allows_19 ?_
    refine gX5_pass (Or.inl rfl) X w lfX2_40 dX2_allows_22 ?_
    refine lv_iconst (v := 1) hx hb dX2_allows_25 (by decide) ?_
    refine lv_iadd hx hb dX2_allows_26 ?_
    refine lv_iload_n hx hb dX2_allows_27 rfl (lv_at hl 1 rfl) ?_
    refine lv_isub hx hb dX2_allows_28 ?_
    refine lv_iconst (v := 2) hx hb dX2_allows_29 (by decide) ?_
    refine lv_iload_n hx hb dX2_allows_30 rfl (lv_at hl 2 rfl) ?_
    refine lv_imul hx hb dX2_allows_31 ?_
    refine lv_isub hx hb dX2_allows_32 ?_
    refine lv_if_le (tgt := 40) hx hb dX2_allows_33 (by decide) (fun c1 => ?_) (fun c1 => ?_)
    · rw [if_pos c1] at hR
      refine lv_iconst (v := 0) hx hb dX2_allows_40 (by decide) ?_
      rw [hQ]
      exact rt_i X hr hlk w hsz rfl (lf2 hR).1 rfl (lf2 hR).2 dX2_allows_41
    · rw [if_neg c1] at hR
      refine lv_iconst (v := 1) hx hb dX2_allows_36 (by decide) ?_
      refine lv_goto (tgt := 41) hx hb dX2_allows_37 (by decide) ?_
      rw [hQ]
      exact rt_i X hr hlk w hsz rfl (lf2 hR).1 rfl (lf2 hR).2 dX2_allows_41
  have hl : lv_has ls 6 [(0, .ref (ad 14)), (1, .int p1), (2, .int p2), (3, .int p3), (4, .int p4), (5, .int p5)] := hl
  unfold fX2_allows at hR
  refine lv_aload_n hx hb dX2_allows_0 rfl (lv_at hl 0 rfl) ?_
  refine gX2_holding X w lfX2_23 dX2_allows_1 ?_
  refine lv_if_lt (tgt := 18) hx hb dX2_allows_4 (by decide) (fun c1 => ?_) (fun c1 => ?_)
  · rw [if_pos c1] at hR
    exact J18 p1 p2 S hR _ _ _ w (lv_sub hl [0, 1, 2] rfl)
  · rw [if_neg c1] at hR
    refine lv_aload_n hx hb dX2_allows_7 rfl (lv_at hl 0 rfl) ?_
    refine gX2_holding X w lfX2_23 dX2_allows_8 ?_
    refine lv_aload_n hx hb dX2_allows_11 rfl (lv_at hl 0 rfl) ?_
    refine gX2_size X w lfX2_31 dX2_allows_12 ?_
    refine lv_icmp_lt (tgt := 42) hx hb dX2_allows_15 (by decide) (fun c2 => ?_) (fun c2 => ?_)
    · rw [if_pos c2] at hR
      refine lv_aload_n hx hb dX2_allows_42 rfl (lv_at hl 0 rfl) ?_
      refine gX2_letters X w lfX2_16 dX2_allows_43 ?_
      refine lv_iconst (v := 0) hx hb dX2_allows_46 (by decide) ?_
      refine lv_iload_n hx hb dX2_allows_47 rfl (lv_at hl 1 rfl) ?_
      obtain ⟨S3, eS3, hR⟩ := lt_e hR
      refine iasS (n := 6) rfl (by decide) X w rfl (by decide) dX2_allows_48 (fun H locs w => ?_)
      rw [← eS3] at w
      refine lv_aload_n hx hb dX2_allows_49 rfl (lv_at hl 0 rfl) ?_
      refine gX2_letters X w lfX2_16 dX2_allows_50 ?_
      refine lv_iconst (v := 1) hx hb dX2_allows_53 (by decide) ?_
      refine lv_iload_n hx hb dX2_allows_54 rfl (lv_at hl 2 rfl) ?_
      obtain ⟨S4, eS4, hR⟩ := lt_e hR
      refine iasS (n := 6) rfl (by decide) X w rfl (by decide) dX2_allows_55 (fun H locs w => ?_)
      rw [← eS4] at w
      refine lv_aload_n hx hb dX2_allows_56 rfl (lv_at hl 0 rfl) ?_
      refine gX2_letters X w lfX2_16 dX2_allows_57 ?_
      refine lv_iconst (v := 2) hx hb dX2_allows_60 (by decide) ?_
      refine lv_iload_n hx hb dX2_allows_61 rfl (lv_at hl 3 rfl) ?_
      obtain ⟨S5, eS5, hR⟩ := lt_e hR
      refine iasS (n := 6) rfl (by decide) X w rfl (by decide) dX2_allows_62 (fun H locs w => ?_)
      rw [← eS5] at w
      refine lv_aload_n hx hb dX2_allows_63 rfl (lv_at hl 0 rfl) ?_
      refine gX2_letters X w lfX2_16 dX2_allows_64 ?_
      refine lv_iconst (v := 3) hx hb dX2_allows_67 (by decide) ?_
      refine lv_aload_n hx hb dX2_allows_68 rfl (lv_at hl 0 rfl) ?_
      refine gX2_mill X w lfX2_27 dX2_allows_69 ?_
      refine gX5_pass (Or.inl rfl) X w lfX2_40 dX2_allows_72 ?_
      obtain ⟨S6, eS6, hR⟩ := lt_e hR
      refine iasS (n := 6) rfl (by decide) X w rfl (by decide) dX2_allows_75 (fun H locs w => ?_)
      rw [← eS6] at w
      refine lv_aload_n hx hb dX2_allows_76 rfl (lv_at hl 0 rfl) ?_
      refine gX2_letters X w lfX2_16 dX2_allows_77 ?_
      refine lv_iconst (v := 4) hx hb dX2_allows_80 (by decide) ?_
      refine lv_iload hx hb dX2_allows_81 (lv_at hl 4 rfl) ?_
      obtain ⟨S7, eS7, hR⟩ := lt_e hR
      refine iasS (n := 6) rfl (by decide) X w rfl (by decide) dX2_allows_83 (fun H locs w => ?_)
      rw [← eS7] at w
      refine lv_aload_n hx hb dX2_allows_84 rfl (lv_at hl 0 rfl) ?_
      refine gX2_letters X w lfX2_16 dX2_allows_85 ?_
      refine lv_iconst (v := 5) hx hb dX2_allows_88 (by decide) ?_
      refine lv_iload hx hb dX2_allows_89 (lv_at hl 5 rfl) ?_
      obtain ⟨S8, eS8, hR⟩ := lt_e hR
      refine iasS (n := 6) rfl (by decide) X w rfl (by decide) dX2_allows_91 (fun H locs w => ?_)
      rw [← eS8] at w
      refine lv_aload_n hx hb dX2_allows_92 rfl (lv_at hl 0 rfl) ?_
      refine lv_aload_n hx hb dX2_allows_93 rfl (lv_at hl 0 rfl) ?_
      refine gX2_laws X w lfX2_11 dX2_allows_94 ?_
      refine lv_aload_n hx hb dX2_allows_97 rfl (lv_at hl 0 rfl) ?_
      refine gX2_holding X w lfX2_23 dX2_allows_98 ?_
      obtain ⟨g9, hR⟩ := ck_e hR
      refine aal X w g9 dX2_allows_101 ?_
      obtain ⟨S12, r11, h10, hR⟩ := b2_e hR
      refine cVi (k := 14) (As := [.ref (ad (48 + (gi S8 14 5 : Int32).toNatClampNeg))]) (rest := []) X hl.1 w okX2_worth obX2 rfl lmX2_45 (kX2_worth ⟨(ikL g9), (lkL g9)⟩ h10) ⟨Nat.le_of_ble_eq_true rfl, Nat.le_of_ble_eq_true rfl⟩ ⟨rfl, rfl⟩ ⟨Nat.zero_le _, Nat.zero_le _⟩ rfl rfl (Nat.le_of_ble_eq_true rfl) dX2_allows_102 (fun H locs zr11 w => ?_)
      refine lv_if_le (tgt := 112) hx hb dX2_allows_105 (by decide) (fun c13 => ?_) (fun c13 => ?_)
      · rw [if_pos c13] at hR
        refine lv_iconst (v := 0) hx hb dX2_allows_112 (by decide) ?_
        rw [hQ]
        exact rt_i X hr hlk w hsz rfl (lf2 hR).1 rfl (lf2 hR).2 dX2_allows_113
      · rw [if_neg c13] at hR
        refine lv_iconst (v := 1) hx hb dX2_allows_108 (by decide) ?_
        refine lv_goto (tgt := 113) hx hb dX2_allows_109 (by decide) ?_
        rw [hQ]
        exact rt_i X hr hlk w hsz rfl (lf2 hR).1 rfl (lf2 hR).2 dX2_allows_113
    · rw [if_neg c2] at hR
      exact J18 p1 p2 S hR _ _ _ w (lv_sub hl [0, 1, 2] rfl)
/- LooseEnds$Works.goesWith(LLooseEnds$State;III)Z -/
def fX10_goesWith (N : Nat) (S : SS) (k1 : Nat) (p2 : Int32) (p3 : Int32) (p4 : Int32) : Option (SS × Int32) := ck (inb p2 7) <|
  ck (inb p3 7) <|
  lt (ab ((ga S (k1 + 1) p2) - (ga S (k1 + 1) p3))) fun v3 =>
  ck (inb p2 7) <|
  ck (inb p3 7) <|
  lt (ab ((ga S 5 p2) - (ga S 5 p3))) fun v6 =>
  ck (inb p2 7) <|
  ck (inb p3 7) <|
  b2 (fX2_allows N S v3 v6 ((ga S (k1 + 2) p2) + (ga S (k1 + 2) p3)) p4 (gi S k1 9)) fun S11 r10 =>
  some (S11, r10)
set_option maxHeartbeats 4000000 in
set_option maxRecDepth 100000 in
theorem kX10_goesWith {l : Launch} {D : va_G} {dA : Nat → ClassId} {ad : Nat → Nat} {t1 t2 : Nat} {N : Nat} {k1 : Nat} (hk1 : k1 = 18 ∨ k1 = 30) {S T : SS} {o : Nat → Int64} {p2 : Int32} {p3 : Int32} {p4 : Int32} {r : Int32} {S' : SS} (hR : fX10_goesWith N S k1 p2 p3 p4 = some (S', r)) : KI l D dA ad t1 t2 yX10_goesWith cX10_goesWith 7 .boolean { frames := 3, cells := 0, slots := 0, locals := 75 } [.ref (ad 28), .ref (ad k1), .int p2, .int p3, .int p4] S T o r S' T := by
  intro sz
  refine en_ (plainFor_of_name (by decide)) (Nat.le_of_ble_eq_true rfl) ?_
  intro p ev s m args below meth c QQ hQ hsz X hr hlk w ls hl
  have hx := X.1
  have hb := X.2.1
  have hl : lv_has ls 7 [(0, .ref (ad 28)), (1, .ref (ad k1)), (2, .int p2), (3, .int p3), (4, .int p4)] := hl
  unfold fX10_goesWith at hR
  refine lv_aload_n hx hb dX10_goesWith_0 rfl (lv_at hl 1 rfl) ?_
  refine gX8_colours hk1 X w lfX10_23 dX10_goesWith_1 ?_
  refine lv_iload_n hx hb dX10_goesWith_4 rfl (lv_at hl 2 rfl) ?_
  obtain ⟨g1, hR⟩ := ck_e hR
  refine ialS (n := 7) (ikX8_1 hk1) (lkX8_1 hk1) X w (nkX8_1 hk1) g1 dX10_goesWith_5 ?_
  refine lv_aload_n hx hb dX10_goesWith_6 rfl (lv_at hl 1 rfl) ?_
  refine gX8_colours hk1 X w lfX10_23 dX10_goesWith_7 ?_
  refine lv_iload_n hx hb dX10_goesWith_10 rfl (lv_at hl 3 rfl) ?_
  obtain ⟨g2, hR⟩ := ck_e hR
  refine ialS (n := 7) (ikX8_1 hk1) (lkX8_1 hk1) X w (nkX8_1 hk1) g2 dX10_goesWith_11 ?_
  refine lv_isub hx hb dX10_goesWith_12 ?_
  refine abI X hl.1 lmX10_29 ⟨Nat.le_of_ble_eq_true rfl, Nat.le_of_ble_eq_true rfl⟩ ⟨Nat.zero_le _, Nat.zero_le _⟩ dX10_goesWith_13 ?_
  obtain ⟨v3, ev3, hR⟩ := lt_e hR
  refine nm_i ev3 ?_
  refine lv_istore (lv' := [(5, .int v3), (0, .ref (ad 28)), (1, .ref (ad k1)), (2, .int p2), (3, .int p3), (4, .int p4)]) hx hb dX10_goesWith_16 hl (by decide) rfl (fun ls hl => ?_)
  refine lv_aload_n hx hb dX10_goesWith_18 rfl (lv_at hl 1 rfl) ?_
  refine gX10_mill X w lfX10_9 dX10_goesWith_19 ?_
  refine gX5_plies (Or.inl rfl) X w lfX10_35 dX10_goesWith_22 ?_
  refine lv_iload_n hx hb dX10_goesWith_25 rfl (lv_at hl 3 rfl) ?_
  obtain ⟨g4, hR⟩ := ck_e hR
  refine ialS (n := 7) rfl (by decide) X w rfl g4 dX10_goesWith_26 ?_
  refine lv_aload_n hx hb dX10_goesWith_27 rfl (lv_at hl 1 rfl) ?_
  refine gX10_mill X w lfX10_9 dX10_goesWith_28 ?_
  refine gX5_plies (Or.inl rfl) X w lfX10_35 dX10_goesWith_31 ?_
  refine lv_iload_n hx hb dX10_goesWith_34 rfl (lv_at hl 4 rfl) ?_
  obtain ⟨g5, hR⟩ := ck_e hR
  refine ialS (n := 7) rfl (by decide) X w rfl g5 dX10_goesWith_35 ?_
  refine lv_isub hx hb dX10_goesWith_36 ?_
  refine abI X hl.1 lmX10_29 ⟨Nat.le_of_ble_eq_true rfl, Nat.le_of_ble_eq_true rfl⟩ ⟨Nat.zero_le _, Nat.zero_le _⟩ dX10_goesWith_37 ?_
  obtain ⟨v6, ev6, hR⟩ := lt_e hR
  refine nm_i ev6 ?_
  refine lv_istore (lv' := [(6, .int v6), (5, .int v3), (0, .ref (ad 28)), (1, .ref (ad k1)), (2, .int p2), (3, .int p3), (4, .int p4)]) hx hb dX10_goesWith_40 hl (by decide) rfl (fun ls hl => ?_)
  refine lv_aload_n hx hb dX10_goesWith_42 rfl (lv_at hl 2 rfl) ?_
  refine gX10_judge X w lfX10_15 dX10_goesWith_43 ?_
  refine lv_iload hx hb dX10_goesWith_46 (lv_at hl 1 rfl) ?_
  refine lv_iload hx hb dX10_goesWith_48 (lv_at hl 0 rfl) ?_
  refine lv_aload_n hx hb dX10_goesWith_50 rfl (lv_at hl 3 rfl) ?_
  refine gX8_lengths hk1 X w lfX10_40 dX10_goesWith_51 ?_
  refine lv_iload_n hx hb dX10_goesWith_54 rfl (lv_at hl 4 rfl) ?_
  obtain ⟨g7, hR⟩ := ck_e hR
  refine ialS (n := 7) (ikX8_2 hk1) (lkX8_2 hk1) X w (nkX8_2 hk1) g7 dX10_goesWith_55 ?_
  refine lv_aload_n hx hb dX10_goesWith_56 rfl (lv_at hl 3 rfl) ?_
  refine gX8_lengths hk1 X w lfX10_40 dX10_goesWith_57 ?_
  refine lv_iload_n hx hb dX10_goesWith_60 rfl (lv_at hl 5 rfl) ?_
  obtain ⟨g8, hR⟩ := ck_e hR
  refine ialS (n := 7) (ikX8_2 hk1) (lkX8_2 hk1) X w (nkX8_2 hk1) g8 dX10_goesWith_61 ?_
  refine lv_iadd hx hb dX10_goesWith_62 ?_
  refine lv_iload hx hb dX10_goesWith_63 (lv_at hl 6 rfl) ?_
  refine lv_aload_n hx hb dX10_goesWith_65 rfl (lv_at hl 3 rfl) ?_
  refine gX8_day hk1 X w lfX10_43 dX10_goesWith_66 ?_
  obtain ⟨S11, r10, h9, hR⟩ := b2_e hR
  refine cVi (k := 14) (As := [.int v3, .int v6, .int ((ga S (k1 + 2) p2) + (ga S (k1 + 2) p3)), .int p4, .int (gi S k1 9)]) (rest := []) X hl.1 w okX2_allows obX2 rfl lmX10_47 (kX2_allows h9) ⟨Nat.le_of_ble_eq_true rfl, Nat.le_of_ble_eq_true rfl⟩ ⟨rfl, rfl⟩ ⟨Nat.zero_le _, Nat.zero_le _⟩ rfl rfl (Nat.le_of_ble_eq_true rfl) dX10_goesWith_69 (fun H locs zr10 w => ?_)
  rw [hQ]
  exact rt_i X hr hlk w hsz zr10 (lf2 hR).1 rfl (lf2 hR).2 dX10_goesWith_72
/- LooseEnds$Advice.partnersOf(I)I -/
def fX0_partnersOf_l14 (N : Nat) : Nat → Int32 → Int32 → Int32 → Int32 → SS → Option (SS × Int32)
  | 0, _, _, _, _, _ => none
  | n + 1, x1, x2, x3, x4, S => if (gi S 18 4) ≤ x4 then
  (some (S, x2))
  else
  (bd (fX8_isOpen N S 18 x1 x4) fun r3 =>
  if r3 = 0 then
  (lt (x4 + 1) fun v5 =>
  fX0_partnersOf_l14 N n x1 x2 x3 v5 S)
  else
  (b2 (fX10_goesWith N S 18 x1 x4 x3) fun S8 r7 =>
  if r7 = 0 then
  (lt (x4 + 1) fun v10 =>
  fX0_partnersOf_l14 N n x1 x2 x3 v10 S8)
  else
  (lt (x2 ||| (sl 1 x4)) fun v11 =>
  lt (x4 + 1) fun v12 =>
  fX0_partnersOf_l14 N n x1 v11 x3 v12 S8)))
def fX0_partnersOf (N : Nat) (S : SS) (p1 : Int32) : Option (SS × Int32) := bd (fX8_sizeOf N S 18 p1) fun r2 =>
  fX0_partnersOf_l14 N N p1 0 r2 0 S
set_option maxHeartbeats 4000000 in
set_option maxRecDepth 100000 in
theorem kX0_partnersOf {l : Launch} {D : va_G} {dA : Nat → ClassId} {ad : Nat → Nat} {t1 t2 : Nat} {N : Nat} {S T : SS} {o : Nat → Int64} {p1 : Int32} {r : Int32} {S' : SS} (hR : fX0_partnersOf N S p1 = some (S', r)) : KI l D dA ad t1 t2 yX0_partnersOf cX0_partnersOf 5 .int { frames := 4, cells := 0, slots := 0, locals := 101 } [.ref (ad 29), .int p1] S T o r S' T := by
  intro sz
  refine en_ (plainFor_of_name (by decide)) (Nat.le_of_ble_eq_true rfl) ?_
  intro p ev s m args below meth c QQ hQ hsz X hr hlk w ls hl
  have hx := X.1
  have hb := X.2.1
  have L14 : ∀ (n : Nat), ∀ (x1 : Int32) (x2 : Int32) (x3 : Int32) (x4 : Int32) (S : SS), fX0_partnersOf_l14 N n x1 x2 x3 x4 S = some (S', r) → WAT p l ev ({ frames := 4, cells := 0, slots := 0, locals := 101 } : Room) s m args below meth c QQ 5 D dA ad t1 t2 S T o 14 [(0, .ref (ad 29)), (1, .int x1), (2, .int x2), (3, .int x3), (4, .int x4)] [] := by
    intro n
    induction n with
    | zero =>
      intro x1 x2 x3 x4 S hR
      exact nomatch hR
    | succ n ih =>
      intro x1 x2 x3 x4 S hR H locs ls w hl
      rw [fX0_partnersOf_l14] at hR
      refine lv_iload hx hb dX0_partnersOf_14 (lv_at hl 4 rfl) ?_
      refine lv_aload_n hx hb dX0_partnersOf_16 rfl (lv_at hl 0 rfl) ?_
      refine gX0_now X w lfX0_42 dX0_partnersOf_17 ?_
      refine gX8_ends (Or.inl rfl) X w lfX0_49 dX0_partnersOf_20 ?_
      refine lv_icmp_ge (tgt := 70) hx hb dX0_partnersOf_23 (by decide) (fun c1 => ?_) (fun c1 => ?_)
      · rw [if_pos c1] at hR
        refine lv_iload_n hx hb dX0_partnersOf_70 rfl (lv_at hl 2 rfl) ?_
        rw [hQ]
        exact rt_i X hr hlk w hsz rfl (lf2 hR).1 rfl (lf2 hR).2 dX0_partnersOf_71
      · rw [if_neg c1] at hR
        refine lv_aload_n hx hb dX0_partnersOf_26 rfl (lv_at hl 0 rfl) ?_
        refine gX0_now X w lfX0_42 dX0_partnersOf_27 ?_
        refine lv_iload_n hx hb dX0_partnersOf_30 rfl (lv_at hl 1 rfl) ?_
        refine lv_iload hx hb dX0_partnersOf_31 (lv_at hl 4 rfl) ?_
        obtain ⟨r3, h2, hR⟩ := bd_e hR
        refine cVi (k := 18) (As := [.int x1, .int x4]) (rest := []) X hl.1 w okX8_isOpen (obX8 (Or.inl rfl)) rfl lmX0_53 (kX8_isOpen (Or.inl rfl) h2) ⟨Nat.le_of_ble_eq_true rfl, Nat.le_of_ble_eq_true rfl⟩ ⟨rfl, rfl⟩ ⟨Nat.zero_le _, Nat.zero_le _⟩ rfl rfl (Nat.le_of_ble_eq_true rfl) dX0_partnersOf_33 (fun H locs zr3 w => ?_)
        refine lv_if_eq (tgt := 64) hx hb dX0_partnersOf_36 (by decide) (fun c4 => ?_) (fun c4 => ?_)
        · rw [if_pos c4] at hR
          obtain ⟨v5, ev5, hR⟩ := lt_e hR
          refine lv_iinc (v := v5) (lv' := [(4, .int v5), (0, .ref (ad 29)), (1, .int x1), (2, .int x2), (3, .int x3)]) hx hb dX0_partnersOf_64 hl (k := 4) rfl (by rw [ev5]; rfl) (by decide) rfl (fun ls hl => ?_)
          refine lv_goto (tgt := 14) hx hb dX0_partnersOf_67 (by decide) ?_
          exact ih x1 x2 x3 v5 S hR _ _ _ w (lv_sub hl [1, 2, 3, 4, 0] rfl)
        · rw [if_neg c4] at hR
          refine lv_aload_n hx hb dX0_partnersOf_39 rfl (lv_at hl 0 rfl) ?_
          refine gX0_works X w lfX0_38 dX0_partnersOf_40 ?_
          refine lv_aload_n hx hb dX0_partnersOf_43 rfl (lv_at hl 0 rfl) ?_
          refine gX0_now X w lfX0_42 dX0_partnersOf_44 ?_
          refine lv_iload_n hx hb dX0_partnersOf_47 rfl (lv_at hl 1 rfl) ?_
          refine lv_iload hx hb dX0_partnersOf_48 (lv_at hl 4 rfl) ?_
          refine lv_iload_n hx hb dX0_partnersOf_50 rfl (lv_at hl 3 rfl) ?_
          obtain ⟨S8, r7, h6, hR⟩ := b2_e hR
          refine cVi (k := 28) (As := [.ref (ad 18), .int x1, .int x4, .int x3]) (rest := []) X hl.1 w okX10_goesWith obX10 rfl lmX0_57 (kX10_goesWith (Or.inl rfl) h6) ⟨Nat.le_of_ble_eq_true rfl, Nat.le_of_ble_eq_true rfl⟩ ⟨rfl, rfl⟩ ⟨Nat.zero_le _, Nat.zero_le _⟩ rfl rfl (Nat.le_of_ble_eq_true rfl) dX0_partnersOf_51 (fun H locs zr7 w => ?_)
          refine lv_if_eq (tgt := 64) hx hb dX0_partnersOf_54 (by decide) (fun c9 => ?_) (fun c9 => ?_)
          · rw [if_pos c9] at hR
            obtain ⟨v10, ev10, hR⟩ := lt_e hR
            refine lv_iinc (v := v10) (lv' := [(4, .int v10), (0, .ref (ad 29)), (1, .int x1), (2, .int x2), (3, .int x3)]) hx hb dX0_partnersOf_64 hl (k := 4) rfl (by rw [ev10]; rfl) (by decide) rfl (fun ls hl => ?_)
            refine lv_goto (tgt := 14) hx hb dX0_partnersOf_67 (by decide) ?_
            exact ih x1 x2 x3 v10 S8 hR _ _ _ w (lv_sub hl [1, 2, 3, 4, 0] rfl)
          · rw [if_neg c9] at hR
            refine lv_iload_n hx hb dX0_partnersOf_57 rfl (lv_at hl 2 rfl) ?_
            refine lv_iconst (v := 1) hx hb dX0_partnersOf_58 (by decide) ?_
            refine lv_iload hx hb dX0_partnersOf_59 (lv_at hl 4 rfl) ?_
            refine lv_ishl hx hb dX0_partnersOf_61 ?_
            refine lv_ior hx hb dX0_partnersOf_62 ?_
            obtain ⟨v11, ev11, hR⟩ := lt_e hR
            refine nm_i ev11 ?_
            refine lv_istore_n (lv' := [(2, .int v11), (0, .ref (ad 29)), (1, .int x1), (3, .int x3), (4, .int x4)]) hx hb dX0_partnersOf_63 rfl hl (by decide) rfl (fun ls hl => ?_)
            obtain ⟨v12, ev12, hR⟩ := lt_e hR
            refine lv_iinc (v := v12) (lv' := [(4, .int v12), (2, .int v11), (0, .ref (ad 29)), (1, .int x1), (3, .int x3)]) hx hb dX0_partnersOf_64 hl (k := 4) rfl (by rw [ev12]; rfl) (by decide) rfl (fun ls hl => ?_)
            refine lv_goto (tgt := 14) hx hb dX0_partnersOf_67 (by decide) ?_
            exact ih x1 v11 x3 v12 S8 hR _ _ _ w (lv_sub hl [2, 3, 1, 4, 0] rfl)
  have hl : lv_has ls 5 [(0, .ref (ad 29)), (1, .int p1)] := hl
  unfold fX0_partnersOf at hR
  refine lv_iconst (v := 0) hx hb dX0_partnersOf_0 (by decide) ?_
  refine lv_istore_n (lv' := [(2, .int 0), (0, .ref (ad 29)), (1, .int p1)]) hx hb dX0_partnersOf_1 rfl hl (by decide) rfl (fun ls hl => ?_)
  refine lv_aload_n hx hb dX0_partnersOf_2 rfl (lv_at hl 1 rfl) ?_
  refine gX0_now X w lfX0_42 dX0_partnersOf_3 ?_
  refine lv_iload_n hx hb dX0_partnersOf_6 rfl (lv_at hl 2 rfl) ?_
  obtain ⟨r2, h1, hR⟩ := bd_e hR
  refine cVi (k := 18) (As := [.int p1]) (rest := []) X hl.1 w okX8_sizeOf (obX8 (Or.inl rfl)) rfl lmX0_45 (kX8_sizeOf (Or.inl rfl) h1) ⟨Nat.le_of_ble_eq_true rfl, Nat.le_of_ble_eq_true rfl⟩ ⟨rfl, rfl⟩ ⟨Nat.zero_le _, Nat.zero_le _⟩ rfl rfl (Nat.le_of_ble_eq_true rfl) dX0_partnersOf_7 (fun H locs zr2 w => ?_)
  refine lv_istore_n (lv' := [(3, .int r2), (2, .int 0), (0, .ref (ad 29)), (1, .int p1)]) hx hb dX0_partnersOf_10 rfl hl (by decide) rfl (fun ls hl => ?_)
  refine lv_iconst (v := 0) hx hb dX0_partnersOf_11 (by decide) ?_
  refine lv_istore (lv' := [(4, .int 0), (3, .int r2), (2, .int 0), (0, .ref (ad 29)), (1, .int p1)]) hx hb dX0_partnersOf_12 hl (by decide) rfl (fun ls hl => ?_)
  exact L14 N p1 0 r2 0 S hR _ _ _ w (lv_sub hl [3, 4, 2, 1, 0] rfl)
/- LooseEnds$State.copyFrom(LLooseEnds$State;)V -/
def fX8_copyFrom (N : Nat) (S : SS) (k0 : Nat) (k1 : Nat) : Option (SS) := lt (cp S (k1 + 1) 0 (k0 + 1) 0 7) fun S1 =>
  lt (cp S1 (k1 + 2) 0 (k0 + 2) 0 7) fun S2 =>
  lt (cp S2 (k1 + 3) 0 (k0 + 3) 0 7) fun S3 =>
  lt (cp S3 (k1 + 4) 0 (k0 + 4) 0 7) fun S4 =>
  lt (pj S4 k0 4 (gi S4 k1 4)) fun S5 =>
  lt (pj S5 k0 5 (gi S5 k1 5)) fun S6 =>
  lt (pj S6 k0 6 (gi S6 k1 6)) fun S7 =>
  lt (pj S7 k0 7 (gi S7 k1 7)) fun S8 =>
  lt (pj S8 k0 8 (gi S8 k1 8)) fun S9 =>
  lt (pj S9 k0 9 (gi S9 k1 9)) fun S10 =>
  some S10
set_option maxHeartbeats 4000000 in
set_option maxRecDepth 100000 in
theorem kX8_copyFrom {l : Launch} {D : va_G} {dA : Nat → ClassId} {ad : Nat → Nat} {t1 t2 : Nat} {N : Nat} {k0 : Nat} (hk0 : k0 = 18 ∨ k0 = 30) {k1 : Nat} (hk1 : k1 = 18 ∨ k1 = 30) {S T : SS} {o : Nat → Int64} {S' : SS} (hR : fX8_copyFrom N S k0 k1 = some S') : KV l D dA ad t1 t2 yX8_copyFrom cX8_copyFrom 2 { frames := 1, cells := 0, slots := 0, locals := 40 } [.ref (ad k0), .ref (ad k1)] S T o S' T := by
  intro sz
  refine en_ (plainFor_of_name (by decide)) (Nat.le_of_ble_eq_true rfl) ?_
  intro p ev s m args below meth c QQ hQ hsz X hr hlk w ls hl
  have hx := X.1
  have hb := X.2.1
  have hl : lv_has ls 2 [(0, .ref (ad k0)), (1, .ref (ad k1))] := hl
  unfold fX8_copyFrom at hR
  refine lv_aload_n hx hb dX8_copyFrom_0 rfl (lv_at hl 1 rfl) ?_
  refine gX8_colours hk1 X w lfX8_9 dX8_copyFrom_1 ?_
  refine lv_iconst (v := 0) hx hb dX8_copyFrom_4 (by decide) ?_
  refine lv_aload_n hx hb dX8_copyFrom_5 rfl (lv_at hl 0 rfl) ?_
  refine gX8_colours hk0 X w lfX8_9 dX8_copyFrom_6 ?_
  refine lv_iconst (v := 0) hx hb dX8_copyFrom_9 (by decide) ?_
  refine lv_bipush (v := 7) hx hb dX8_copyFrom_10 (by decide) ?_
  obtain ⟨S1, eS1, hR⟩ := lt_e hR
  refine cpS (n0 := 7) (n1 := 7) (ikX8_1 hk1) (lkX8_1 hk1) (ikX8_1 hk0) (lkX8_1 hk0) X hl.1 w lmX8_24 (nkX8_1 hk1) (nkX8_1 hk0) (by decide) (Nat.le_of_ble_eq_true rfl) (Nat.le_of_ble_eq_true rfl) dX8_copyFrom_12 (fun H locs w => ?_)
  rw [← eS1] at w
  refine lv_aload_n hx hb dX8_copyFrom_15 rfl (lv_at hl 1 rfl) ?_
  refine gX8_lengths hk1 X w lfX8_15 dX8_copyFrom_16 ?_
  refine lv_iconst (v := 0) hx hb dX8_copyFrom_19 (by decide) ?_
  refine lv_aload_n hx hb dX8_copyFrom_20 rfl (lv_at hl 0 rfl) ?_
  refine gX8_lengths hk0 X w lfX8_15 dX8_copyFrom_21 ?_
  refine lv_iconst (v := 0) hx hb dX8_copyFrom_24 (by decide) ?_
  refine lv_bipush (v := 7) hx hb dX8_copyFrom_25 (by decide) ?_
  obtain ⟨S2, eS2, hR⟩ := lt_e hR
  refine cpS (n0 := 7) (n1 := 7) (ikX8_2 hk1) (lkX8_2 hk1) (ikX8_2 hk0) (lkX8_2 hk0) X hl.1 w lmX8_24 (nkX8_2 hk1) (nkX8_2 hk0) (by decide) (Nat.le_of_ble_eq_true rfl) (Nat.le_of_ble_eq_true rfl) dX8_copyFrom_27 (fun H locs w => ?_)
  rw [← eS2] at w
  refine lv_aload_n hx hb dX8_copyFrom_30 rfl (lv_at hl 1 rfl) ?_
  refine gX8_behind hk1 X w lfX8_18 dX8_copyFrom_31 ?_
  refine lv_iconst (v := 0) hx hb dX8_copyFrom_34 (by decide) ?_
  refine lv_aload_n hx hb dX8_copyFrom_35 rfl (lv_at hl 0 rfl) ?_
  refine gX8_behind hk0 X w lfX8_18 dX8_copyFrom_36 ?_
  refine lv_iconst (v := 0) hx hb dX8_copyFrom_39 (by decide) ?_
  refine lv_bipush (v := 7) hx hb dX8_copyFrom_40 (by decide) ?_
  obtain ⟨S3, eS3, hR⟩ := lt_e hR
  refine cpS (n0 := 7) (n1 := 7) (ikX8_3 hk1) (lkX8_3 hk1) (ikX8_3 hk0) (lkX8_3 hk0) X hl.1 w lmX8_24 (nkX8_3 hk1) (nkX8_3 hk0) (by decide) (Nat.le_of_ble_eq_true rfl) (Nat.le_of_ble_eq_true rfl) dX8_copyFrom_42 (fun H locs w => ?_)
  rw [← eS3] at w
  refine lv_aload_n hx hb dX8_copyFrom_45 rfl (lv_at hl 1 rfl) ?_
  refine gX8_ahead hk1 X w lfX8_21 dX8_copyFrom_46 ?_
  refine lv_iconst (v := 0) hx hb dX8_copyFrom_49 (by decide) ?_
  refine lv_aload_n hx hb dX8_copyFrom_50 rfl (lv_at hl 0 rfl) ?_
  refine gX8_ahead hk0 X w lfX8_21 dX8_copyFrom_51 ?_
  refine lv_iconst (v := 0) hx hb dX8_copyFrom_54 (by decide) ?_
  refine lv_bipush (v := 7) hx hb dX8_copyFrom_55 (by decide) ?_
  obtain ⟨S4, eS4, hR⟩ := lt_e hR
  refine cpS (n0 := 7) (n1 := 7) (ikX8_4 hk1) (lkX8_4 hk1) (ikX8_4 hk0) (lkX8_4 hk0) X hl.1 w lmX8_24 (nkX8_4 hk1) (nkX8_4 hk0) (by decide) (Nat.le_of_ble_eq_true rfl) (Nat.le_of_ble_eq_true rfl) dX8_copyFrom_57 (fun H locs w => ?_)
  rw [← eS4] at w
  refine lv_aload_n hx hb dX8_copyFrom_60 rfl (lv_at hl 0 rfl) ?_
  refine lv_aload_n hx hb dX8_copyFrom_61 rfl (lv_at hl 1 rfl) ?_
  refine gX8_ends hk1 X w lfX8_51 dX8_copyFrom_62 ?_
  obtain ⟨S5, eS5, hR⟩ := lt_e hR
  refine pX8_ends hk0 X w lfX8_51 dX8_copyFrom_65 (fun H locs w => ?_)
  rw [← eS5] at w
  refine lv_aload_n hx hb dX8_copyFrom_68 rfl (lv_at hl 0 rfl) ?_
  refine lv_aload_n hx hb dX8_copyFrom_69 rfl (lv_at hl 1 rfl) ?_
  refine gX8_sold hk1 X w lfX8_30 dX8_copyFrom_70 ?_
  obtain ⟨S6, eS6, hR⟩ := lt_e hR
  refine pX8_sold hk0 X w lfX8_30 dX8_copyFrom_73 (fun H locs w => ?_)
  rw [← eS6] at w
  refine lv_aload_n hx hb dX8_copyFrom_76 rfl (lv_at hl 0 rfl) ?_
  refine lv_aload_n hx hb dX8_copyFrom_77 rfl (lv_at hl 1 rfl) ?_
  refine gX8_tries hk1 X w lfX8_34 dX8_copyFrom_78 ?_
  obtain ⟨S7, eS7, hR⟩ := lt_e hR
  refine pX8_tries hk0 X w lfX8_34 dX8_copyFrom_81 (fun H locs w => ?_)
  rw [← eS7] at w
  refine lv_aload_n hx hb dX8_copyFrom_84 rfl (lv_at hl 0 rfl) ?_
  refine lv_aload_n hx hb dX8_copyFrom_85 rfl (lv_at hl 1 rfl) ?_
  refine gX8_made hk1 X w lfX8_37 dX8_copyFrom_86 ?_
  obtain ⟨S8, eS8, hR⟩ := lt_e hR
  refine pX8_made hk0 X w lfX8_37 dX8_copyFrom_89 (fun H locs w => ?_)
  rw [← eS8] at w
  refine lv_aload_n hx hb dX8_copyFrom_92 rfl (lv_at hl 0 rfl) ?_
  refine lv_aload_n hx hb dX8_copyFrom_93 rfl (lv_at hl 1 rfl) ?_
  refine gX8_coins hk1 X w lfX8_40 dX8_copyFrom_94 ?_
  obtain ⟨S9, eS9, hR⟩ := lt_e hR
  refine pX8_coins hk0 X w lfX8_40 dX8_copyFrom_97 (fun H locs w => ?_)
  rw [← eS9] at w
  refine lv_aload_n hx hb dX8_copyFrom_100 rfl (lv_at hl 0 rfl) ?_
  refine lv_aload_n hx hb dX8_copyFrom_101 rfl (lv_at hl 1 rfl) ?_
  refine gX8_day hk1 X w lfX8_43 dX8_copyFrom_102 ?_
  obtain ⟨S10, eS10, hR⟩ := lt_e hR
  refine pX8_day hk0 X w lfX8_43 dX8_copyFrom_105 (fun H locs w => ?_)
  rw [← eS10] at w
  rw [hQ]
  exact rt_v X hr hlk w hsz (lf1 hR) rfl dX8_copyFrom_108
/- LooseEnds$Advice.countBundles()I -/
def fX0_countBundles_l4 (N : Nat) : Nat → Int32 → Int32 → SS → Option (Int32)
  | 0, _, _, _ => none
  | n + 1, x1, x2, S => if (gi S 18 4) ≤ x2 then
  (some x1)
  else
  (bd (fX8_isSold N S 18 x2) fun r3 =>
  if r3 = 0 then
  (ck (inb x2 7) <|
  if (ga S 22 x2) = (-1) then
  (lt (x1 + 1) fun v9 =>
  lt (x2 + 1) fun v10 =>
  fX0_countBundles_l4 N n v9 v10 S)
  else
  (lt (x2 + 1) fun v8 =>
  fX0_countBundles_l4 N n x1 v8 S))
  else
  (lt (x2 + 1) fun v5 =>
  fX0_countBundles_l4 N n x1 v5 S))
def fX0_countBundles (N : Nat) (S : SS) : Option (Int32) := fX0_countBundles_l4 N N 0 0 S
set_option maxHeartbeats 4000000 in
set_option maxRecDepth 100000 in
theorem kX0_countBundles {l : Launch} {D : va_G} {dA : Nat → ClassId} {ad : Nat → Nat} {t1 t2 : Nat} {N : Nat} {S T : SS} {o : Nat → Int64} {r : Int32} (hR : fX0_countBundles N S = some r) : KI l D dA ad t1 t2 yX0_countBundles cX0_countBundles 3 .int { frames := 1, cells := 0, slots := 0, locals := 21 } [.ref (ad 29)] S T o r S T := by
  intro sz
  refine en_ (plainFor_of_name (by decide)) (Nat.le_of_ble_eq_true rfl) ?_
  intro p ev s m args below meth c QQ hQ hsz X hr hlk w ls hl
  have hx := X.1
  have hb := X.2.1
  have L4 : ∀ (n : Nat), ∀ (x1 : Int32) (x2 : Int32), fX0_countBundles_l4 N n x1 x2 S = some r → WAT p l ev ({ frames := 1, cells := 0, slots := 0, locals := 21 } : Room) s m args below meth c QQ 3 D dA ad t1 t2 S T o 4 [(0, .ref (ad 29)), (1, .int x1), (2, .int x2)] [] := by
    intro n
    induction n with
    | zero =>
      intro x1 x2 hR
      exact nomatch hR
    | succ n ih =>
      intro x1 x2 hR H locs ls w hl
      rw [fX0_countBundles_l4] at hR
      refine lv_iload_n hx hb dX0_countBundles_4 rfl (lv_at hl 2 rfl) ?_
      refine lv_aload_n hx hb dX0_countBundles_5 rfl (lv_at hl 0 rfl) ?_
      refine gX0_now X w lfX0_42 dX0_countBundles_6 ?_
      refine gX8_ends (Or.inl rfl) X w lfX0_49 dX0_countBundles_9 ?_
      refine lv_icmp_ge (tgt := 48) hx hb dX0_countBundles_12 (by decide) (fun c1 => ?_) (fun c1 => ?_)
      · rw [if_pos c1] at hR
        refine lv_iload_n hx hb dX0_countBundles_48 rfl (lv_at hl 1 rfl) ?_
        rw [hQ]
        exact rt_i X hr hlk w hsz rfl rfl rfl (lf1 hR) dX0_countBundles_49
      · rw [if_neg c1] at hR
        refine lv_aload_n hx hb dX0_countBundles_15 rfl (lv_at hl 0 rfl) ?_
        refine gX0_now X w lfX0_42 dX0_countBundles_16 ?_
        refine lv_iload_n hx hb dX0_countBundles_19 rfl (lv_at hl 2 rfl) ?_
        obtain ⟨r3, h2, hR⟩ := bd_e hR
        refine cVi (k := 18) (As := [.int x2]) (rest := []) X hl.1 w okX8_isSold (obX8 (Or.inl rfl)) rfl lmX0_84 (kX8_isSold (Or.inl rfl) h2) ⟨Nat.le_of_ble_eq_true rfl, Nat.le_of_ble_eq_true rfl⟩ ⟨rfl, rfl⟩ ⟨Nat.zero_le _, Nat.zero_le _⟩ rfl rfl (Nat.le_of_ble_eq_true rfl) dX0_countBundles_20 (fun H locs zr3 w => ?_)
        refine lv_if_ne (tgt := 42) hx hb dX0_countBundles_23 (by decide) (fun c4 => ?_) (fun c4 => ?_)
        · rw [if_neg c4] at hR
          obtain ⟨v5, ev5, hR⟩ := lt_e hR
          refine lv_iinc (v := v5) (lv' := [(2, .int v5), (0, .ref (ad 29)), (1, .int x1)]) hx hb dX0_countBundles_42 hl (k := 2) rfl (by rw [ev5]; rfl) (by decide) rfl (fun ls hl => ?_)
          refine lv_goto (tgt := 4) hx hb dX0_countBundles_45 (by decide) ?_
          exact ih x1 v5 hR _ _ _ w (lv_sub hl [1, 2, 0] rfl)
        · rw [if_pos c4] at hR
          refine lv_aload_n hx hb dX0_countBundles_26 rfl (lv_at hl 0 rfl) ?_
          refine gX0_now X w lfX0_42 dX0_countBundles_27 ?_
          refine gX8_ahead (Or.inl rfl) X w lfX0_88 dX0_countBundles_30 ?_
          refine lv_iload_n hx hb dX0_countBundles_33 rfl (lv_at hl 2 rfl) ?_
          obtain ⟨g6, hR⟩ := ck_e hR
          refine ialS (n := 7) rfl (by decide) X w rfl g6 dX0_countBundles_34 ?_
          refine lv_iconst (v := -1) hx hb dX0_countBundles_35 (by decide) ?_
          refine lv_icmp_ne (tgt := 42) hx hb dX0_countBundles_36 (by decide) (fun c7 => ?_) (fun c7 => ?_)
          · rw [if_neg c7] at hR
            obtain ⟨v8, ev8, hR⟩ := lt_e hR
            refine lv_iinc (v := v8) (lv' := [(2, .int v8), (0, .ref (ad 29)), (1, .int x1)]) hx hb dX0_countBundles_42 hl (k := 2) rfl (by rw [ev8]; rfl) (by decide) rfl (fun ls hl => ?_)
            refine lv_goto (tgt := 4) hx hb dX0_countBundles_45 (by decide) ?_
            exact ih x1 v8 hR _ _ _ w (lv_sub hl [1, 2, 0] rfl)
          · rw [if_pos c7] at hR
            obtain ⟨v9, ev9, hR⟩ := lt_e hR
            refine lv_iinc (v := v9) (lv' := [(1, .int v9), (0, .ref (ad 29)), (2, .int x2)]) hx hb dX0_countBundles_39 hl (k := 1) rfl (by rw [ev9]; rfl) (by decide) rfl (fun ls hl => ?_)
            obtain ⟨v10, ev10, hR⟩ := lt_e hR
            refine lv_iinc (v := v10) (lv' := [(2, .int v10), (1, .int v9), (0, .ref (ad 29))]) hx hb dX0_countBundles_42 hl (k := 2) rfl (by rw [ev10]; rfl) (by decide) rfl (fun ls hl => ?_)
            refine lv_goto (tgt := 4) hx hb dX0_countBundles_45 (by decide) ?_
            exact ih v9 v10 hR _ _ _ w (lv_sub hl [2, 1, 0] rfl)
  have hl : lv_has ls 3 [(0, .ref (ad 29))] := hl
  unfold fX0_countBundles at hR
  refine lv_iconst (v := 0) hx hb dX0_countBundles_0 (by decide) ?_
  refine lv_istore_n (lv' := [(1, .int 0), (0, .ref (ad 29))]) hx hb dX0_countBundles_1 rfl hl (by decide) rfl (fun ls hl => ?_)
  refine lv_iconst (v := 0) hx hb dX0_countBundles_2 (by decide) ?_
  refine lv_istore_n (lv' := [(2, .int 0), (1, .int 0), (0, .ref (ad 29))]) hx hb dX0_countBundles_3 rfl hl (by decide) rfl (fun ls hl => ?_)
  exact L4 N 0 0 hR _ _ _ w (lv_sub hl [2, 1, 0] rfl)
/- LooseEnds$State.join(II)V -/
def fX8_join (N : Nat) (S : SS) (k0 : Nat) (p1 : Int32) (p2 : Int32) : Option (SS) := ck (inb p1 7) <|
  lt (pa S (k0 + 3) p1 p2) fun S2 =>
  ck (inb p2 7) <|
  lt (pa S2 (k0 + 4) p2 p1) fun S4 =>
  some S4
set_option maxHeartbeats 4000000 in
set_option maxRecDepth 100000 in
theorem kX8_join {l : Launch} {D : va_G} {dA : Nat → ClassId} {ad : Nat → Nat} {t1 t2 : Nat} {N : Nat} {k0 : Nat} (hk0 : k0 = 18 ∨ k0 = 30) {S T : SS} {o : Nat → Int64} {p1 : Int32} {p2 : Int32} {S' : SS} (hR : fX8_join N S k0 p1 p2 = some S') : KV l D dA ad t1 t2 yX8_join cX8_join 3 { frames := 0, cells := 0, slots := 0, locals := 0 } [.ref (ad k0), .int p1, .int p2] S T o S' T := by
  intro sz
  refine en_ (plainFor_of_name (by decide)) (Nat.le_of_ble_eq_true rfl) ?_
  intro p ev s m args below meth c QQ hQ hsz X hr hlk w ls hl
  have hx := X.1
  have hb := X.2.1
  have hl : lv_has ls 3 [(0, .ref (ad k0)), (1, .int p1), (2, .int p2)] := hl
  unfold fX8_join at hR
  refine lv_aload_n hx hb dX8_join_0 rfl (lv_at hl 0 rfl) ?_
  refine gX8_behind hk0 X w lfX8_18 dX8_join_1 ?_
  refine lv_iload_n hx hb dX8_join_4 rfl (lv_at hl 1 rfl) ?_
  refine lv_iload_n hx hb dX8_join_5 rfl (lv_at hl 2 rfl) ?_
  obtain ⟨g1, hR⟩ := ck_e hR
  obtain ⟨S2, eS2, hR⟩ := lt_e hR
  refine iasS (n := 7) (ikX8_3 hk0) (lkX8_3 hk0) X w (nkX8_3 hk0) g1 dX8_join_6 (fun H locs w => ?_)
  rw [← eS2] at w
  refine lv_aload_n hx hb dX8_join_7 rfl (lv_at hl 0 rfl) ?_
  refine gX8_ahead hk0 X w lfX8_21 dX8_join_8 ?_
  refine lv_iload_n hx hb dX8_join_11 rfl (lv_at hl 2 rfl) ?_
  refine lv_iload_n hx hb dX8_join_12 rfl (lv_at hl 1 rfl) ?_
  obtain ⟨g3, hR⟩ := ck_e hR
  obtain ⟨S4, eS4, hR⟩ := lt_e hR
  refine iasS (n := 7) (ikX8_4 hk0) (lkX8_4 hk0) X w (nkX8_4 hk0) g3 dX8_join_13 (fun H locs w => ?_)
  rw [← eS4] at w
  rw [hQ]
  exact rt_v X hr hlk w hsz (lf1 hR) rfl dX8_join_14
/- LooseEnds$State.part(II)V -/
def fX8_part (N : Nat) (S : SS) (k0 : Nat) (p1 : Int32) (p2 : Int32) : Option (SS) := ck (inb p1 7) <|
  lt (pa S (k0 + 3) p1 (-1)) fun S2 =>
  ck (inb p2 7) <|
  lt (pa S2 (k0 + 4) p2 (-1)) fun S4 =>
  some S4
set_option maxHeartbeats 4000000 in
set_option maxRecDepth 100000 in
theorem kX8_part {l : Launch} {D : va_G} {dA : Nat → ClassId} {ad : Nat → Nat} {t1 t2 : Nat} {N : Nat} {k0 : Nat} (hk0 : k0 = 18 ∨ k0 = 30) {S T : SS} {o : Nat → Int64} {p1 : Int32} {p2 : Int32} {S' : SS} (hR : fX8_part N S k0 p1 p2 = some S') : KV l D dA ad t1 t2 yX8_part cX8_part 3 { frames := 0, cells := 0, slots := 0, locals := 0 } [.ref (ad k0), .int p1, .int p2] S T o S' T := by
  intro sz
  refine en_ (plainFor_of_name (by decide)) (Nat.le_of_ble_eq_true rfl) ?_
  intro p ev s m args below meth c QQ hQ hsz X hr hlk w ls hl
  have hx := X.1
  have hb := X.2.1
  have hl : lv_has ls 3 [(0, .ref (ad k0)), (1, .int p1), (2, .int p2)] := hl
  unfold fX8_part at hR
  refine lv_aload_n hx hb dX8_part_0 rfl (lv_at hl 0 rfl) ?_
  refine gX8_behind hk0 X w lfX8_18 dX8_part_1 ?_
  refine lv_iload_n hx hb dX8_part_4 rfl (lv_at hl 1 rfl) ?_
  refine lv_iconst (v := -1) hx hb dX8_part_5 (by decide) ?_
  obtain ⟨g1, hR⟩ := ck_e hR
  obtain ⟨S2, eS2, hR⟩ := lt_e hR
  refine iasS (n := 7) (ikX8_3 hk0) (lkX8_3 hk0) X w (nkX8_3 hk0) g1 dX8_part_6 (fun H locs w => ?_)
  rw [← eS2] at w
  refine lv_aload_n hx hb dX8_part_7 rfl (lv_at hl 0 rfl) ?_
  refine gX8_ahead hk0 X w lfX8_21 dX8_part_8 ?_
  refine lv_iload_n hx hb dX8_part_11 rfl (lv_at hl 2 rfl) ?_
  refine lv_iconst (v := -1) hx hb dX8_part_12 (by decide) ?_
  obtain ⟨g3, hR⟩ := ck_e hR
  obtain ⟨S4, eS4, hR⟩ := lt_e hR
  refine iasS (n := 7) (ikX8_4 hk0) (lkX8_4 hk0) X w (nkX8_4 hk0) g3 dX8_part_13 (fun H locs w => ?_)
  rw [← eS4] at w
  rw [hQ]
  exact rt_v X hr hlk w hsz (lf1 hR) rfl dX8_part_14
/- LooseEnds$Advice.chooseKnot(III)V -/
def fX0_chooseKnot_l71 (N : Nat) (rec : SS → Int32 → Int32 → Int32 → Option (SS)) : Nat → Int32 → Int32 → Int32 → Int32 → SS → Option (SS)
  | 0, _, _, _, _, _ => none
  | n + 1, x1, x2, x3, x4, S => if (gi S 18 4) ≤ x4 then
  (bd (rec S (x1 + 1) x2 ((x3 * 10) + 9)) fun S3 =>
  some S3)
  else
  (ck (inb x1 7) <|
  if ((sr (ga S 35 x1) x4) &&& 1) = 1 then
  (bd (fX8_isOpen N S 30 x1 x4) fun r8 =>
  if r8 = 0 then
  (lt (x4 + 1) fun v10 =>
  fX0_chooseKnot_l71 N rec n x1 x2 x3 v10 S)
  else
  (bd (fX8_join N S 30 x1 x4) fun S12 =>
  bd (rec S12 (x1 + 1) (x2 + 1) ((x3 * 10) + x4)) fun S14 =>
  bd (fX8_part N S14 30 x1 x4) fun S16 =>
  lt (x4 + 1) fun v17 =>
  fX0_chooseKnot_l71 N rec n x1 x2 x3 v17 S16))
  else
  (lt (x4 + 1) fun v6 =>
  fX0_chooseKnot_l71 N rec n x1 x2 x3 v6 S))
def fX0_chooseKnot_j46 (N : Nat) (rec : SS → Int32 → Int32 → Int32 → Option (SS)) (x1 : Int32) (x2 : Int32) (x3 : Int32) (S : SS) : Option (SS) := if x1 = (gi S 18 4) then
  (lt (pj S 29 10 x2) fun S2 =>
  lt (pj S2 29 11 x3) fun S3 =>
  some S3)
  else
  (fX0_chooseKnot_l71 N rec N x1 x2 x3 0 S)
def fX0_chooseKnot_b (N : Nat) (rec : SS → Int32 → Int32 → Int32 → Option (SS)) (S : SS) (p1 : Int32) (p2 : Int32) (p3 : Int32) : Option (SS) := if (gi S 18 4) < p1 then
  (some S)
  else
  (ck (inb p1 8) <|
  if (p2 + (ga S 36 p1)) ≤ (gi S 29 10) then
  (some S)
  else
  (if (gi S 29 10) = (-1) then
  (fX0_chooseKnot_j46 N rec p1 p2 p3 S)
  else
  (if (gi S 29 10) < (gi S 29 9) then
  (fX0_chooseKnot_j46 N rec p1 p2 p3 S)
  else
  (some S))))
def fX0_chooseKnot (N : Nat) : Nat → SS → Int32 → Int32 → Int32 → Option (SS)
  | 0, _, _, _, _ => none
  | d + 1, S, p1, p2, p3 => fX0_chooseKnot_b N (fX0_chooseKnot N d) S p1 p2 p3
set_option maxHeartbeats 4000000 in
set_option maxRecDepth 100000 in
theorem kX0_chooseKnot_b {l : Launch} {D : va_G} {dA : Nat → ClassId} {ad : Nat → Nat} {t1 t2 : Nat} {N : Nat} {rec : SS → Int32 → Int32 → Int32 → Option (SS)} {F L : Nat} (hrec : ∀ {S T : SS} {o : Nat → Int64} {p1 : Int32} {p2 : Int32} {p3 : Int32} {S' : SS}, rec S p1 p2 p3 = some S' → KV l D dA ad t1 t2 yX0_chooseKnot cX0_chooseKnot 5 { frames := F, cells := 0, slots := 0, locals := L } [.ref (ad 29), .int p1, .int p2, .int p3] S T o S' T) {S T : SS} {o : Nat → Int64} {p1 : Int32} {p2 : Int32} {p3 : Int32} {S' : SS} (hR : fX0_chooseKnot_b N rec S p1 p2 p3 = some S') : KV l D dA ad t1 t2 yX0_chooseKnot cX0_chooseKnot 5 { frames := F + 2, cells := 0, slots := 0, locals := L + 45 } [.ref (ad 29), .int p1, .int p2, .int p3] S T o S' T := by
  intro sz
  refine en_ (plainFor_of_name (by decide)) (Nat.le_of_ble_eq_true rfl) ?_
  intro p ev s m args below meth c QQ hQ hsz X hr hlk w ls hl
  have hx := X.1
  have hb := X.2.1
  have L71 : ∀ (n : Nat), ∀ (x1 : Int32) (x2 : Int32) (x3 : Int32) (x4 : Int32) (S : SS), fX0_chooseKnot_l71 N rec n x1 x2 x3 x4 S = some S' → WAT p l ev ({ frames := F + 2, cells := 0, slots := 0, locals := L + 45 } : Room) s m args below meth c QQ 5 D dA ad t1 t2 S T o 71 [(0, .ref (ad 29)), (1, .int x1), (2, .int x2), (3, .int x3), (4, .int x4)] [] := by
    intro n
    induction n with
    | zero =>
      intro x1 x2 x3 x4 S hR
      exact nomatch hR
    | succ n ih =>
      intro x1 x2 x3 x4 S hR H locs ls w hl
      rw [fX0_chooseKnot_l71] at hR
      refine lv_iload hx hb dX0_chooseKnot_71 (lv_at hl 4 rfl) ?_
      refine lv_aload_n hx hb dX0_chooseKnot_73 rfl (lv_at hl 0 rfl) ?_
      refine gX0_now X w lfX0_42 dX0_chooseKnot_74 ?_
      refine gX8_ends (Or.inl rfl) X w lfX0_49 dX0_chooseKnot_77 ?_
      refine lv_icmp_ge (tgt := 154) hx hb dX0_chooseKnot_80 (by decide) (fun c1 => ?_) (fun c1 => ?_)
      · rw [if_pos c1] at hR
        refine lv_aload_n hx hb dX0_chooseKnot_154 rfl (lv_at hl 0 rfl) ?_
        refine lv_iload_n hx hb dX0_chooseKnot_155 rfl (lv_at hl 1 rfl) ?_
        refine lv_iconst (v := 1) hx hb dX0_chooseKnot_156 (by decide) ?_
        refine lv_iadd hx hb dX0_chooseKnot_157 ?_
        refine lv_iload_n hx hb dX0_chooseKnot_158 rfl (lv_at hl 2 rfl) ?_
        refine lv_iload_n hx hb dX0_chooseKnot_159 rfl (lv_at hl 3 rfl) ?_
        refine lv_bipush (v := 10) hx hb dX0_chooseKnot_160 (by decide) ?_
        refine lv_imul hx hb dX0_chooseKnot_162 ?_
        refine lv_bipush (v := 9) hx hb dX0_chooseKnot_163 (by decide) ?_
        refine lv_iadd hx hb dX0_chooseKnot_165 ?_
        obtain ⟨S3, h2, hR⟩ := bd_e hR
        refine cVv (k := 29) (As := [.int (x1 + 1), .int x2, .int ((x3 * 10) + 9)]) (rest := []) X hl.1 w okX0_chooseKnot obX0 rfl lmX0_80 (hrec h2) ⟨by show _ ≤ F + 2; dsimp only; omega, by show _ ≤ L + 45; simp only [List.map, Value.category, List.sum_cons, List.sum_nil, Nat.add_assoc]; omega⟩ ⟨rfl, rfl⟩ ⟨Nat.zero_le _, Nat.zero_le _⟩ rfl rfl (Nat.le_of_ble_eq_true rfl) dX0_chooseKnot_166 (fun H locs w => ?_)
        rw [hQ]
        exact rt_v X hr hlk w hsz (lf1 hR) rfl dX0_chooseKnot_169
      · rw [if_neg c1] at hR
        refine lv_aload_n hx hb dX0_chooseKnot_83 rfl (lv_at hl 0 rfl) ?_
        refine gX0_partners X w lfX0_18 dX0_chooseKnot_84 ?_
        refine lv_iload_n hx hb dX0_chooseKnot_87 rfl (lv_at hl 1 rfl) ?_
        obtain ⟨g4, hR⟩ := ck_e hR
        refine ialS (n := 7) rfl (by decide) X w rfl g4 dX0_chooseKnot_88 ?_
        refine lv_iload hx hb dX0_chooseKnot_89 (lv_at hl 4 rfl) ?_
        refine lv_ishr hx hb dX0_chooseKnot_91 ?_
        refine lv_iconst (v := 1) hx hb dX0_chooseKnot_92 (by decide) ?_
        refine lv_iand hx hb dX0_chooseKnot_93 ?_
        refine lv_iconst (v := 1) hx hb dX0_chooseKnot_94 (by decide) ?_
        refine lv_icmp_ne (tgt := 148) hx hb dX0_chooseKnot_95 (by decide) (fun c5 => ?_) (fun c5 => ?_)
        · rw [if_neg c5] at hR
          obtain ⟨v6, ev6, hR⟩ := lt_e hR
          refine lv_iinc (v := v6) (lv' := [(4, .int v6), (0, .ref (ad 29)), (1, .int x1), (2, .int x2), (3, .int x3)]) hx hb dX0_chooseKnot_148 hl (k := 4) rfl (by rw [ev6]; rfl) (by decide) rfl (fun ls hl => ?_)
          refine lv_goto (tgt := 71) hx hb dX0_chooseKnot_151 (by decide) ?_
          exact ih x1 x2 x3 v6 S hR _ _ _ w (lv_sub hl [1, 2, 3, 4, 0] rfl)
        · rw [if_pos c5] at hR
          refine lv_aload_n hx hb dX0_chooseKnot_98 rfl (lv_at hl 0 rfl) ?_
          refine gX0_trial X w lfX0_12 dX0_chooseKnot_99 ?_
          refine lv_iload_n hx hb dX0_chooseKnot_102 rfl (lv_at hl 1 rfl) ?_
          refine lv_iload hx hb dX0_chooseKnot_103 (lv_at hl 4 rfl) ?_
          obtain ⟨r8, h7, hR⟩ := bd_e hR
          refine cVi (k := 30) (As := [.int x1, .int x4]) (rest := []) X hl.1 w okX8_isOpen (obX8 (Or.inr rfl)) rfl lmX0_53 (kX8_isOpen (Or.inr rfl) h7) ⟨by show _ ≤ F + 2; dsimp only; omega, by show _ ≤ L + 45; simp only [List.map, Value.category, List.sum_cons, List.sum_nil, Nat.add_assoc]; omega⟩ ⟨rfl, rfl⟩ ⟨Nat.zero_le _, Nat.zero_le _⟩ rfl rfl (Nat.le_of_ble_eq_true rfl) dX0_chooseKnot_105 (fun H locs zr8 w => ?_)
          refine lv_if_eq (tgt := 148) hx hb dX0_chooseKnot_108 (by decide) (fun c9 => ?_) (fun c9 => ?_)
          · rw [if_pos c9] at hR
            obtain ⟨v10, ev10, hR⟩ := lt_e hR
            refine lv_iinc (v := v10) (lv' := [(4, .int v10), (0, .ref (ad 29)), (1, .int x1), (2, .int x2), (3, .int x3)]) hx hb dX0_chooseKnot_148 hl (k := 4) rfl (by rw [ev10]; rfl) (by decide) rfl (fun ls hl => ?_)
            refine lv_goto (tgt := 71) hx hb dX0_chooseKnot_151 (by decide) ?_
            exact ih x1 x2 x3 v10 S hR _ _ _ w (lv_sub hl [1, 2, 3, 4, 0] rfl)
          · rw [if_neg c9] at hR
            refine lv_aload_n hx hb dX0_chooseKnot_111 rfl (lv_at hl 0 rfl) ?_
            refine gX0_trial X w lfX0_12 dX0_chooseKnot_112 ?_
            refine lv_iload_n hx hb dX0_chooseKnot_115 rfl (lv_at hl 1 rfl) ?_
            refine lv_iload hx hb dX0_chooseKnot_116 (lv_at hl 4 rfl) ?_
            obtain ⟨S12, h11, hR⟩ := bd_e hR
            refine cVv (k := 30) (As := [.int x1, .int x4]) (rest := []) X hl.1 w okX8_join (obX8 (Or.inr rfl)) rfl lmX0_94 (kX8_join (Or.inr rfl) h11) ⟨by show _ ≤ F + 2; dsimp only; omega, by show _ ≤ L + 45; simp only [List.map, Value.category, List.sum_cons, List.sum_nil, Nat.add_assoc]; omega⟩ ⟨rfl, rfl⟩ ⟨Nat.zero_le _, Nat.zero_le _⟩ rfl rfl (Nat.le_of_ble_eq_true rfl) dX0_chooseKnot_118 (fun H locs w => ?_)
            refine lv_aload_n hx hb dX0_chooseKnot_121 rfl (lv_at hl 0 rfl) ?_
            refine lv_iload_n hx hb dX0_chooseKnot_122 rfl (lv_at hl 1 rfl) ?_
            refine lv_iconst (v := 1) hx hb dX0_chooseKnot_123 (by decide) ?_
            refine lv_iadd hx hb dX0_chooseKnot_124 ?_
            refine lv_iload_n hx hb dX0_chooseKnot_125 rfl (lv_at hl 2 rfl) ?_
            refine lv_iconst (v := 1) hx hb dX0_chooseKnot_126 (by decide) ?_
            refine lv_iadd hx hb dX0_chooseKnot_127 ?_
            refine lv_iload_n hx hb dX0_chooseKnot_128 rfl (lv_at hl 3 rfl) ?_
            refine lv_bipush (v := 10) hx hb dX0_chooseKnot_129 (by decide) ?_
            refine lv_imul hx hb dX0_chooseKnot_131 ?_
            refine lv_iload hx hb dX0_chooseKnot_132 (lv_at hl 4 rfl) ?_
            refine lv_iadd hx hb dX0_chooseKnot_134 ?_
            obtain ⟨S14, h13, hR⟩ := bd_e hR
            refine cVv (k := 29) (As := [.int (x1 + 1), .int (x2 + 1), .int ((x3 * 10) + x4)]) (rest := []) X hl.1 w okX0_chooseKnot obX0 rfl lmX0_80 (hrec h13) ⟨by show _ ≤ F + 2; dsimp only; omega, by show _ ≤ L + 45; simp only [List.map, Value.category, List.sum_cons, List.sum_nil, Nat.add_assoc]; omega⟩ ⟨rfl, rfl⟩ ⟨Nat.zero_le _, Nat.zero_le _⟩ rfl rfl (Nat.le_of_ble_eq_true rfl) dX0_chooseKnot_135 (fun H locs w => ?_)
            refine lv_aload_n hx hb dX0_chooseKnot_138 rfl (lv_at hl 0 rfl) ?_
            refine gX0_trial X w lfX0_12 dX0_chooseKnot_139 ?_
            refine lv_iload_n hx hb dX0_chooseKnot_142 rfl (lv_at hl 1 rfl) ?_
            refine lv_iload hx hb dX0_chooseKnot_143 (lv_at hl 4 rfl) ?_
            obtain ⟨S16, h15, hR⟩ := bd_e hR
            refine cVv (k := 30) (As := [.int x1, .int x4]) (rest := []) X hl.1 w okX8_part (obX8 (Or.inr rfl)) rfl lmX0_98 (kX8_part (Or.inr rfl) h15) ⟨by show _ ≤ F + 2; dsimp only; omega, by show _ ≤ L + 45; simp only [List.map, Value.category, List.sum_cons, List.sum_nil, Nat.add_assoc]; omega⟩ ⟨rfl, rfl⟩ ⟨Nat.zero_le _, Nat.zero_le _⟩ rfl rfl (Nat.le_of_ble_eq_true rfl) dX0_chooseKnot_145 (fun H locs w => ?_)
            obtain ⟨v17, ev17, hR⟩ := lt_e hR
            refine lv_iinc (v := v17) (lv' := [(4, .int v17), (0, .ref (ad 29)), (1, .int x1), (2, .int x2), (3, .int x3)]) hx hb dX0_chooseKnot_148 hl (k := 4) rfl (by rw [ev17]; rfl) (by decide) rfl (fun ls hl => ?_)
            refine lv_goto (tgt := 71) hx hb dX0_chooseKnot_151 (by decide) ?_
            exact ih x1 x2 x3 v17 S16 hR _ _ _ w (lv_sub hl [1, 2, 3, 4, 0] rfl)
  have J46 : ∀ (x1 : Int32) (x2 : Int32) (x3 : Int32) (S : SS), fX0_chooseKnot_j46 N rec x1 x2 x3 S = some S' → WAT p l ev ({ frames := F + 2, cells := 0, slots := 0, locals := L + 45 } : Room) s m args below meth c QQ 5 D dA ad t1 t2 S T o 46 [(0, .ref (ad 29)), (1, .int x1), (2, .int x2), (3, .int x3)] [] := by
    intro x1 x2 x3 S hR H locs ls w hl
    unfold fX0_chooseKnot_j46 at hR
    refine lv_iload_n hx hb dX0_chooseKnot_46 rfl (lv_at hl 1 rfl) ?_
    refine lv_aload_n hx hb dX0_chooseKnot_47 rfl (lv_at hl 0 rfl) ?_
    refine gX0_now X w lfX0_42 dX0_chooseKnot_48 ?_
    refine gX8_ends (Or.inl rfl) X w lfX0_49 dX0_chooseKnot_51 ?_
    refine lv_icmp_ne (tgt := 68) hx hb dX0_chooseKnot_54 (by decide) (fun c1 => ?_) (fun c1 => ?_)
    · rw [if_neg c1] at hR
      refine lv_iconst (v := 0) hx hb dX0_chooseKnot_68 (by decide) ?_
      refine lv_istore (lv' := [(4, .int 0), (0, .ref (ad 29)), (1, .int x1), (2, .int x2), (3, .int x3)]) hx hb dX0_chooseKnot_69 hl (by decide) rfl (fun ls hl => ?_)
      exact L71 N x1 x2 x3 0 S hR _ _ _ w (lv_sub hl [1, 2, 3, 4, 0] rfl)
    · rw [if_pos c1] at hR
      refine lv_aload_n hx hb dX0_chooseKnot_57 rfl (lv_at hl 0 rfl) ?_
      refine lv_iload_n hx hb dX0_chooseKnot_58 rfl (lv_at hl 2 rfl) ?_
      obtain ⟨S2, eS2, hR⟩ := lt_e hR
      refine pX0_best X w lfX0_70 dX0_chooseKnot_59 (fun H locs w => ?_)
      rw [← eS2] at w
      refine lv_aload_n hx hb dX0_chooseKnot_62 rfl (lv_at hl 0 rfl) ?_
      refine lv_iload_n hx hb dX0_chooseKnot_63 rfl (lv_at hl 3 rfl) ?_
      obtain ⟨S3, eS3, hR⟩ := lt_e hR
      refine pX0_bestRow X w lfX0_91 dX0_chooseKnot_64 (fun H locs w => ?_)
      rw [← eS3] at w
      rw [hQ]
      exact rt_v X hr hlk w hsz (lf1 hR) rfl dX0_chooseKnot_67
  have hl : lv_has ls 5 [(0, .ref (ad 29)), (1, .int p1), (2, .int p2), (3, .int p3)] := hl
  unfold fX0_chooseKnot_b at hR
  refine lv_iload_n hx hb dX0_chooseKnot_0 rfl (lv_at hl 1 rfl) ?_
  refine lv_aload_n hx hb dX0_chooseKnot_1 rfl (lv_at hl 0 rfl) ?_
  refine gX0_now X w lfX0_42 dX0_chooseKnot_2 ?_
  refine gX8_ends (Or.inl rfl) X w lfX0_49 dX0_chooseKnot_5 ?_
  refine lv_icmp_gt (tgt := 45) hx hb dX0_chooseKnot_8 (by decide) (fun c1 => ?_) (fun c1 => ?_)
  · rw [if_pos c1] at hR
    rw [hQ]
    exact rt_v X hr hlk w hsz (lf1 hR) rfl dX0_chooseKnot_45
  · rw [if_neg c1] at hR
    refine lv_iload_n hx hb dX0_chooseKnot_11 rfl (lv_at hl 2 rfl) ?_
    refine lv_aload_n hx hb dX0_chooseKnot_12 rfl (lv_at hl 0 rfl) ?_
    refine gX0_openFrom X w lfX0_22 dX0_chooseKnot_13 ?_
    refine lv_iload_n hx hb dX0_chooseKnot_16 rfl (lv_at hl 1 rfl) ?_
    obtain ⟨g2, hR⟩ := ck_e hR
    refine ialS (n := 8) rfl (by decide) X w rfl g2 dX0_chooseKnot_17 ?_
    refine lv_iadd hx hb dX0_chooseKnot_18 ?_
    refine lv_aload_n hx hb dX0_chooseKnot_19 rfl (lv_at hl 0 rfl) ?_
    refine gX0_best X w lfX0_70 dX0_chooseKnot_20 ?_
    refine lv_icmp_le (tgt := 45) hx hb dX0_chooseKnot_23 (by decide) (fun c3 => ?_) (fun c3 => ?_)
    · rw [if_pos c3] at hR
      rw [hQ]
      exact rt_v X hr hlk w hsz (lf1 hR) rfl dX0_chooseKnot_45
    · rw [if_neg c3] at hR
      refine lv_aload_n hx hb dX0_chooseKnot_26 rfl (lv_at hl 0 rfl) ?_
      refine gX0_best X w lfX0_70 dX0_chooseKnot_27 ?_
      refine lv_iconst (v := -1) hx hb dX0_chooseKnot_30 (by decide) ?_
      refine lv_icmp_eq (tgt := 46) hx hb dX0_chooseKnot_31 (by decide) (fun c4 => ?_) (fun c4 => ?_)
      · rw [if_pos c4] at hR
        exact J46 p1 p2 p3 S hR _ _ _ w (lv_sub hl [0, 1, 2, 3] rfl)
      · rw [if_neg c4] at hR
        refine lv_aload_n hx hb dX0_chooseKnot_34 rfl (lv_at hl 0 rfl) ?_
        refine gX0_best X w lfX0_70 dX0_chooseKnot_35 ?_
        refine lv_aload_n hx hb dX0_chooseKnot_38 rfl (lv_at hl 0 rfl) ?_
        refine gX0_mostJoined X w lfX0_77 dX0_chooseKnot_39 ?_
        refine lv_icmp_lt (tgt := 46) hx hb dX0_chooseKnot_42 (by decide) (fun c5 => ?_) (fun c5 => ?_)
        · rw [if_pos c5] at hR
          exact J46 p1 p2 p3 S hR _ _ _ w (lv_sub hl [0, 1, 2, 3] rfl)
        · rw [if_neg c5] at hR
          rw [hQ]
          exact rt_v X hr hlk w hsz (lf1 hR) rfl dX0_chooseKnot_45
theorem kX0_chooseKnot {l : Launch} {D : va_G} {dA : Nat → ClassId} {ad : Nat → Nat} {t1 t2 : Nat} {N : Nat} (d : Nat) : ∀ {S T : SS} {o : Nat → Int64} {p1 : Int32} {p2 : Int32} {p3 : Int32} {S' : SS}, fX0_chooseKnot N d S p1 p2 p3 = some S' → KV l D dA ad t1 t2 yX0_chooseKnot cX0_chooseKnot 5 { frames := 2 * d, cells := 0, slots := 0, locals := 45 * d } [.ref (ad 29), .int p1, .int p2, .int p3] S T o S' T := by
  induction d with
  | zero =>
    intro S T o p1 p2 p3 S' hR
    exact nomatch hR
  | succ d ih =>
    intro S T o p1 p2 p3 S' hR
    exact kX0_chooseKnot_b ih hR
/- LooseEnds$Advice.findKnots()V -/
def fX0_findKnots_l34 (N : Nat) : Nat → Int32 → SS → Option (SS)
  | 0, _, _ => none
  | n + 1, x1, S => if x1 < 0 then
  (lt (pj S 29 10 (-1)) fun S2 =>
  bd (fX0_countBundles N S2) fun r4 =>
  lt (pj S2 29 9 (r4 - 1)) fun S5 =>
  bd (fX0_chooseKnot N 10 S5 0 0 0) fun S7 =>
  some S7)
  else
  (b2 (fX0_partnersOf N S x1) fun S10 r9 =>
  ck (inb x1 7) <|
  lt (pa S10 35 x1 r9) fun S12 =>
  ck (inb (x1 + 1) 8) <|
  ck (inb x1 7) <|
  if (ga S12 35 x1) = 0 then
  (ck (inb x1 8) <|
  lt (pa S12 36 x1 ((ga S12 36 (x1 + 1)) + 0)) fun S20 =>
  lt (x1 + (-1)) fun v21 =>
  fX0_findKnots_l34 N n v21 S20)
  else
  (ck (inb x1 8) <|
  lt (pa S12 36 x1 ((ga S12 36 (x1 + 1)) + 1)) fun S17 =>
  lt (x1 + (-1)) fun v18 =>
  fX0_findKnots_l34 N n v18 S17))
def fX0_findKnots (N : Nat) (S : SS) : Option (SS) := bd (fX8_copyFrom N S 30 18) fun S2 =>
  ck (inb (gi S2 18 4) 8) <|
  lt (pa S2 36 (gi S2 18 4) 0) fun S4 =>
  lt ((gi S4 18 4) - 1) fun v5 =>
  fX0_findKnots_l34 N N v5 S4
set_option maxHeartbeats 4000000 in
set_option maxRecDepth 100000 in
theorem kX0_findKnots {l : Launch} {D : va_G} {dA : Nat → ClassId} {ad : Nat → Nat} {t1 t2 : Nat} {N : Nat} {S T : SS} {o : Nat → Int64} {S' : SS} (hR : fX0_findKnots N S = some S') : KV l D dA ad t1 t2 yX0_findKnots cX0_findKnots 2 { frames := 21, cells := 0, slots := 0, locals := 474 } [.ref (ad 29)] S T o S' T := by
  intro sz
  refine en_ (plainFor_of_name (by decide)) (Nat.le_of_ble_eq_true rfl) ?_
  intro p ev s m args below meth c QQ hQ hsz X hr hlk w ls hl
  have hx := X.1
  have hb := X.2.1
  have L34 : ∀ (n : Nat), ∀ (x1 : Int32) (S : SS), fX0_findKnots_l34 N n x1 S = some S' → WAT p l ev ({ frames := 21, cells := 0, slots := 0, locals := 474 } : Room) s m args below meth c QQ 2 D dA ad t1 t2 S T o 34 [(0, .ref (ad 29)), (1, .int x1)] [] := by
    intro n
    induction n with
    | zero =>
      intro x1 S hR
      exact nomatch hR
    | succ n ih =>
      intro x1 S hR H locs ls w hl
      rw [fX0_findKnots_l34] at hR
      refine lv_iload_n hx hb dX0_findKnots_34 rfl (lv_at hl 1 rfl) ?_
      refine lv_if_lt (tgt := 84) hx hb dX0_findKnots_35 (by decide) (fun c1 => ?_) (fun c1 => ?_)
      · rw [if_pos c1] at hR
        refine lv_aload_n hx hb dX0_findKnots_84 rfl (lv_at hl 0 rfl) ?_
        refine lv_iconst (v := -1) hx hb dX0_findKnots_85 (by decide) ?_
        obtain ⟨S2, eS2, hR⟩ := lt_e hR
        refine pX0_best X w lfX0_70 dX0_findKnots_86 (fun H locs w => ?_)
        rw [← eS2] at w
        refine lv_aload_n hx hb dX0_findKnots_89 rfl (lv_at hl 0 rfl) ?_
        refine lv_aload_n hx hb dX0_findKnots_90 rfl (lv_at hl 0 rfl) ?_
        obtain ⟨r4, h3, hR⟩ := bd_e hR
        refine cVi (k := 29) (As := []) (rest := [.ref (ad 29)]) X hl.1 w okX0_countBundles obX0 rfl lmX0_73 (kX0_countBundles h3) ⟨Nat.le_of_ble_eq_true rfl, Nat.le_of_ble_eq_true rfl⟩ ⟨rfl, rfl⟩ ⟨Nat.zero_le _, Nat.zero_le _⟩ rfl rfl (Nat.le_of_ble_eq_true rfl) dX0_findKnots_91 (fun H locs zr4 w => ?_)
        refine lv_iconst (v := 1) hx hb dX0_findKnots_94 (by decide) ?_
        refine lv_isub hx hb dX0_findKnots_95 ?_
        obtain ⟨S5, eS5, hR⟩ := lt_e hR
        refine pX0_mostJoined X w lfX0_77 dX0_findKnots_96 (fun H locs w => ?_)
        rw [← eS5] at w
        refine lv_aload_n hx hb dX0_findKnots_99 rfl (lv_at hl 0 rfl) ?_
        refine lv_iconst (v := 0) hx hb dX0_findKnots_100 (by decide) ?_
        refine lv_iconst (v := 0) hx hb dX0_findKnots_101 (by decide) ?_
        refine lv_iconst (v := 0) hx hb dX0_findKnots_102 (by decide) ?_
        obtain ⟨S7, h6, hR⟩ := bd_e hR
        refine cVv (k := 29) (As := [.int 0, .int 0, .int 0]) (rest := []) X hl.1 w okX0_chooseKnot obX0 rfl lmX0_80 (kX0_chooseKnot 10 h6) ⟨Nat.le_of_ble_eq_true rfl, Nat.le_of_ble_eq_true rfl⟩ ⟨rfl, rfl⟩ ⟨Nat.zero_le _, Nat.zero_le _⟩ rfl rfl (Nat.le_of_ble_eq_true rfl) dX0_findKnots_103 (fun H locs w => ?_)
        rw [hQ]
        exact rt_v X hr hlk w hsz (lf1 hR) rfl dX0_findKnots_106
      · rw [if_neg c1] at hR
        refine lv_aload_n hx hb dX0_findKnots_38 rfl (lv_at hl 0 rfl) ?_
        refine gX0_partners X w lfX0_18 dX0_findKnots_39 ?_
        refine lv_iload_n hx hb dX0_findKnots_42 rfl (lv_at hl 1 rfl) ?_
        refine lv_aload_n hx hb dX0_findKnots_43 rfl (lv_at hl 0 rfl) ?_
        refine lv_iload_n hx hb dX0_findKnots_44 rfl (lv_at hl 1 rfl) ?_
        obtain ⟨S10, r9, h8, hR⟩ := b2_e hR
        refine cVi (k := 29) (As := [.int x1]) (rest := [.int x1, .ref (ad 35)]) X hl.1 w okX0_partnersOf obX0 rfl lmX0_67 (kX0_partnersOf h8) ⟨Nat.le_of_ble_eq_true rfl, Nat.le_of_ble_eq_true rfl⟩ ⟨rfl, rfl⟩ ⟨Nat.zero_le _, Nat.zero_le _⟩ rfl rfl (Nat.le_of_ble_eq_true rfl) dX0_findKnots_45 (fun H locs zr9 w => ?_)
        obtain ⟨g11, hR⟩ := ck_e hR
        obtain ⟨S12, eS12, hR⟩ := lt_e hR
        refine iasS (n := 7) rfl (by decide) X w rfl g11 dX0_findKnots_48 (fun H locs w => ?_)
        rw [← eS12] at w
        refine lv_aload_n hx hb dX0_findKnots_49 rfl (lv_at hl 0 rfl) ?_
        refine gX0_openFrom X w lfX0_22 dX0_findKnots_50 ?_
        refine lv_iload_n hx hb dX0_findKnots_53 rfl (lv_at hl 1 rfl) ?_
        refine lv_aload_n hx hb dX0_findKnots_54 rfl (lv_at hl 0 rfl) ?_
        refine gX0_openFrom X w lfX0_22 dX0_findKnots_55 ?_
        refine lv_iload_n hx hb dX0_findKnots_58 rfl (lv_at hl 1 rfl) ?_
        refine lv_iconst (v := 1) hx hb dX0_findKnots_59 (by decide) ?_
        refine lv_iadd hx hb dX0_findKnots_60 ?_
        obtain ⟨g13, hR⟩ := ck_e hR
        refine ialS (n := 8) rfl (by decide) X w rfl g13 dX0_findKnots_61 ?_
        refine lv_aload_n hx hb dX0_findKnots_62 rfl (lv_at hl 0 rfl) ?_
        refine gX0_partners X w lfX0_18 dX0_findKnots_63 ?_
        refine lv_iload_n hx hb dX0_findKnots_66 rfl (lv_at hl 1 rfl) ?_
        obtain ⟨g14, hR⟩ := ck_e hR
        refine ialS (n := 7) rfl (by decide) X w rfl g14 dX0_findKnots_67 ?_
        refine lv_if_ne (tgt := 75) hx hb dX0_findKnots_68 (by decide) (fun c15 => ?_) (fun c15 => ?_)
        · rw [if_neg c15] at hR
          refine lv_iconst (v := 1) hx hb dX0_findKnots_75 (by decide) ?_
          refine lv_iadd hx hb dX0_findKnots_76 ?_
          obtain ⟨g16, hR⟩ := ck_e hR
          obtain ⟨S17, eS17, hR⟩ := lt_e hR
          refine iasS (n := 8) rfl (by decide) X w rfl g16 dX0_findKnots_77 (fun H locs w => ?_)
          rw [← eS17] at w
          obtain ⟨v18, ev18, hR⟩ := lt_e hR
          refine lv_iinc (v := v18) (lv' := [(1, .int v18), (0, .ref (ad 29))]) hx hb dX0_findKnots_78 hl (k := 1) rfl (by rw [ev18]; rfl) (by decide) rfl (fun ls hl => ?_)
          refine lv_goto (tgt := 34) hx hb dX0_findKnots_81 (by decide) ?_
          exact ih v18 S17 hR _ _ _ w (lv_sub hl [1, 0] rfl)
        · rw [if_pos c15] at hR
          refine lv_iconst (v := 0) hx hb dX0_findKnots_71 (by decide) ?_
          refine lv_goto (tgt := 76) hx hb dX0_findKnots_72 (by decide) ?_
          refine lv_iadd hx hb dX0_findKnots_76 ?_
          obtain ⟨g19, hR⟩ := ck_e hR
          obtain ⟨S20, eS20, hR⟩ := lt_e hR
          refine iasS (n := 8) rfl (by decide) X w rfl g19 dX0_findKnots_77 (fun H locs w => ?_)
          rw [← eS20] at w
          obtain ⟨v21, ev21, hR⟩ := lt_e hR
          refine lv_iinc (v := v21) (lv' := [(1, .int v21), (0, .ref (ad 29))]) hx hb dX0_findKnots_78 hl (k := 1) rfl (by rw [ev21]; rfl) (by decide) rfl (fun ls hl => ?_)
          refine lv_goto (tgt := 34) hx hb dX0_findKnots_81 (by decide) ?_
          exact ih v21 S20 hR _ _ _ w (lv_sub hl [1, 0] rfl)
  have hl : lv_has ls 2 [(0, .ref (ad 29))] := hl
  unfold fX0_findKnots at hR
  refine lv_aload_n hx hb dX0_findKnots_0 rfl (lv_at hl 0 rfl) ?_
  refine gX0_trial X w lfX0_12 dX0_findKnots_1 ?_
  refine lv_aload_n hx hb dX0_findKnots_4 rfl (lv_at hl 0 rfl) ?_
  refine gX0_now X w lfX0_42 dX0_findKnots_5 ?_
  obtain ⟨S2, h1, hR⟩ := bd_e hR
  refine cVv (k := 30) (As := [.ref (ad 18)]) (rest := []) X hl.1 w okX8_copyFrom (obX8 (Or.inr rfl)) rfl lmX0_63 (kX8_copyFrom (Or.inr rfl) (Or.inl rfl) h1) ⟨Nat.le_of_ble_eq_true rfl, Nat.le_of_ble_eq_true rfl⟩ ⟨rfl, rfl⟩ ⟨Nat.zero_le _, Nat.zero_le _⟩ rfl rfl (Nat.le_of_ble_eq_true rfl) dX0_findKnots_8 (fun H locs w => ?_)
  refine lv_aload_n hx hb dX0_findKnots_11 rfl (lv_at hl 0 rfl) ?_
  refine gX0_openFrom X w lfX0_22 dX0_findKnots_12 ?_
  refine lv_aload_n hx hb dX0_findKnots_15 rfl (lv_at hl 0 rfl) ?_
  refine gX0_now X w lfX0_42 dX0_findKnots_16 ?_
  refine gX8_ends (Or.inl rfl) X w lfX0_49 dX0_findKnots_19 ?_
  refine lv_iconst (v := 0) hx hb dX0_findKnots_22 (by decide) ?_
  obtain ⟨g3, hR⟩ := ck_e hR
  obtain ⟨S4, eS4, hR⟩ := lt_e hR
  refine iasS (n := 8) rfl (by decide) X w rfl g3 dX0_findKnots_23 (fun H locs w => ?_)
  rw [← eS4] at w
  refine lv_aload_n hx hb dX0_findKnots_24 rfl (lv_at hl 0 rfl) ?_
  refine gX0_now X w lfX0_42 dX0_findKnots_25 ?_
  refine gX8_ends (Or.inl rfl) X w lfX0_49 dX0_findKnots_28 ?_
  refine lv_iconst (v := 1) hx hb dX0_findKnots_31 (by decide) ?_
  refine lv_isub hx hb dX0_findKnots_32 ?_
  obtain ⟨v5, ev5, hR⟩ := lt_e hR
  refine nm_i ev5 ?_
  refine lv_istore_n (lv' := [(1, .int v5), (0, .ref (ad 29))]) hx hb dX0_findKnots_33 rfl hl (by decide) rfl (fun ls hl => ?_)
  exact L34 N v5 S4 hR _ _ _ w (lv_sub hl [1, 0] rfl)
/- LooseEnds$State.isKnotted(I)Z -/
def fX8_isKnotted (N : Nat) (S : SS) (k0 : Nat) (p1 : Int32) : Option (Int32) := ck (inb p1 7) <|
  if (ga S (k0 + 3) p1) = (-1) then
  (ck (inb p1 7) <|
  if (ga S (k0 + 4) p1) = (-1) then
  (some 0)
  else
  (some 1))
  else
  (some 1)
set_option maxHeartbeats 4000000 in
set_option maxRecDepth 100000 in
theorem kX8_isKnotted {l : Launch} {D : va_G} {dA : Nat → ClassId} {ad : Nat → Nat} {t1 t2 : Nat} {N : Nat} {k0 : Nat} (hk0 : k0 = 18 ∨ k0 = 30) {S T : SS} {o : Nat → Int64} {p1 : Int32} {r : Int32} (hR : fX8_isKnotted N S k0 p1 = some r) : KI l D dA ad t1 t2 yX8_isKnotted cX8_isKnotted 2 .boolean { frames := 0, cells := 0, slots := 0, locals := 0 } [.ref (ad k0), .int p1] S T o r S T := by
  intro sz
  refine en_ (plainFor_of_name (by decide)) (Nat.le_of_ble_eq_true rfl) ?_
  intro p ev s m args below meth c QQ hQ hsz X hr hlk w ls hl
  have hx := X.1
  have hb := X.2.1
  have hl : lv_has ls 2 [(0, .ref (ad k0)), (1, .int p1)] := hl
  unfold fX8_isKnotted at hR
  refine lv_aload_n hx hb dX8_isKnotted_0 rfl (lv_at hl 0 rfl) ?_
  refine gX8_behind hk0 X w lfX8_18 dX8_isKnotted_1 ?_
  refine lv_iload_n hx hb dX8_isKnotted_4 rfl (lv_at hl 1 rfl) ?_
  obtain ⟨g1, hR⟩ := ck_e hR
  refine ialS (n := 7) (ikX8_3 hk0) (lkX8_3 hk0) X w (nkX8_3 hk0) g1 dX8_isKnotted_5 ?_
  refine lv_iconst (v := -1) hx hb dX8_isKnotted_6 (by decide) ?_
  refine lv_icmp_ne (tgt := 20) hx hb dX8_isKnotted_7 (by decide) (fun c2 => ?_) (fun c2 => ?_)
  · rw [if_neg c2] at hR
    refine lv_iconst (v := 1) hx hb dX8_isKnotted_20 (by decide) ?_
    refine lv_goto (tgt := 25) hx hb dX8_isKnotted_21 (by decide) ?_
    rw [hQ]
    exact rt_i X hr hlk w hsz rfl rfl rfl (lf1 hR) dX8_isKnotted_25
  · rw [if_pos c2] at hR
    refine lv_aload_n hx hb dX8_isKnotted_10 rfl (lv_at hl 0 rfl) ?_
    refine gX8_ahead hk0 X w lfX8_21 dX8_isKnotted_11 ?_
    refine lv_iload_n hx hb dX8_isKnotted_14 rfl (lv_at hl 1 rfl) ?_
    obtain ⟨g3, hR⟩ := ck_e hR
    refine ialS (n := 7) (ikX8_4 hk0) (lkX8_4 hk0) X w (nkX8_4 hk0) g3 dX8_isKnotted_15 ?_
    refine lv_iconst (v := -1) hx hb dX8_isKnotted_16 (by decide) ?_
    refine lv_icmp_eq (tgt := 24) hx hb dX8_isKnotted_17 (by decide) (fun c4 => ?_) (fun c4 => ?_)
    · rw [if_pos c4] at hR
      refine lv_iconst (v := 0) hx hb dX8_isKnotted_24 (by decide) ?_
      rw [hQ]
      exact rt_i X hr hlk w hsz rfl rfl rfl (lf1 hR) dX8_isKnotted_25
    · rw [if_neg c4] at hR
      refine lv_iconst (v := 1) hx hb dX8_isKnotted_20 (by decide) ?_
      refine lv_goto (tgt := 25) hx hb dX8_isKnotted_21 (by decide) ?_
      rw [hQ]
      exact rt_i X hr hlk w hsz rfl rfl rfl (lf1 hR) dX8_isKnotted_25
/- LooseEnds$State.isLoose(I)Z -/
def fX8_isLoose (N : Nat) (S : SS) (k0 : Nat) (p1 : Int32) : Option (Int32) := bd (fX8_isSold N S k0 p1) fun r2 =>
  if r2 = 0 then
  (bd (fX8_isKnotted N S k0 p1) fun r5 =>
  if r5 = 0 then
  (some 1)
  else
  (some 0))
  else
  (some 0)
set_option maxHeartbeats 4000000 in
set_option maxRecDepth 100000 in
theorem kX8_isLoose {l : Launch} {D : va_G} {dA : Nat → ClassId} {ad : Nat → Nat} {t1 t2 : Nat} {N : Nat} {k0 : Nat} (hk0 : k0 = 18 ∨ k0 = 30) {S T : SS} {o : Nat → Int64} {p1 : Int32} {r : Int32} (hR : fX8_isLoose N S k0 p1 = some r) : KI l D dA ad t1 t2 yX8_isLoose cX8_isLoose 2 .boolean { frames := 1, cells := 0, slots := 0, locals := 21 } [.ref (ad k0), .int p1] S T o r S T := by
  intro sz
  refine en_ (plainFor_of_name (by decide)) (Nat.le_of_ble_eq_true rfl) ?_
  intro p ev s m args below meth c QQ hQ hsz X hr hlk w ls hl
  have hx := X.1
  have hb := X.2.1
  have hl : lv_has ls 2 [(0, .ref (ad k0)), (1, .int p1)] := hl
  unfold fX8_isLoose at hR
  refine lv_aload_n hx hb dX8_isLoose_0 rfl (lv_at hl 0 rfl) ?_
  refine lv_iload_n hx hb dX8_isLoose_1 rfl (lv_at hl 1 rfl) ?_
  obtain ⟨r2, h1, hR⟩ := bd_e hR
  refine cVi (k := k0) (As := [.int p1]) (rest := []) X hl.1 w okX8_isSold (obX8 hk0) rfl lmX8_61 (kX8_isSold hk0 h1) ⟨Nat.le_of_ble_eq_true rfl, Nat.le_of_ble_eq_true rfl⟩ ⟨rfl, rfl⟩ ⟨Nat.zero_le _, Nat.zero_le _⟩ rfl rfl (Nat.le_of_ble_eq_true rfl) dX8_isLoose_2 (fun H locs zr2 w => ?_)
  refine lv_if_ne (tgt := 20) hx hb dX8_isLoose_5 (by decide) (fun c3 => ?_) (fun c3 => ?_)
  · rw [if_neg c3] at hR
    refine lv_iconst (v := 0) hx hb dX8_isLoose_20 (by decide) ?_
    rw [hQ]
    exact rt_i X hr hlk w hsz rfl rfl rfl (lf1 hR) dX8_isLoose_21
  · rw [if_pos c3] at hR
    refine lv_aload_n hx hb dX8_isLoose_8 rfl (lv_at hl 0 rfl) ?_
    refine lv_iload_n hx hb dX8_isLoose_9 rfl (lv_at hl 1 rfl) ?_
    obtain ⟨r5, h4, hR⟩ := bd_e hR
    refine cVi (k := k0) (As := [.int p1]) (rest := []) X hl.1 w okX8_isKnotted (obX8 hk0) rfl lmX8_65 (kX8_isKnotted hk0 h4) ⟨Nat.le_of_ble_eq_true rfl, Nat.le_of_ble_eq_true rfl⟩ ⟨rfl, rfl⟩ ⟨Nat.zero_le _, Nat.zero_le _⟩ rfl rfl (Nat.le_of_ble_eq_true rfl) dX8_isLoose_10 (fun H locs zr5 w => ?_)
    refine lv_if_ne (tgt := 20) hx hb dX8_isLoose_13 (by decide) (fun c6 => ?_) (fun c6 => ?_)
    · rw [if_neg c6] at hR
      refine lv_iconst (v := 0) hx hb dX8_isLoose_20 (by decide) ?_
      rw [hQ]
      exact rt_i X hr hlk w hsz rfl rfl rfl (lf1 hR) dX8_isLoose_21
    · rw [if_pos c6] at hR
      refine lv_iconst (v := 1) hx hb dX8_isLoose_16 (by decide) ?_
      refine lv_goto (tgt := 21) hx hb dX8_isLoose_17 (by decide) ?_
      rw [hQ]
      exact rt_i X hr hlk w hsz rfl rfl rfl (lf1 hR) dX8_isLoose_21
/- LooseEnds$State.looseBits()I -/
def fX8_looseBits_l4 (N : Nat) (k0 : Nat) : Nat → Int32 → Int32 → SS → Option (Int32)
  | 0, _, _, _ => none
  | n + 1, x1, x2, S => if (gi S k0 4) ≤ x2 then
  (some x1)
  else
  (bd (fX8_isLoose N S k0 x2) fun r3 =>
  if r3 = 0 then
  (lt (x2 + 1) fun v5 =>
  fX8_looseBits_l4 N k0 n x1 v5 S)
  else
  (lt (x1 ||| (sl 1 x2)) fun v6 =>
  lt (x2 + 1) fun v7 =>
  fX8_looseBits_l4 N k0 n v6 v7 S))
def fX8_looseBits (N : Nat) (S : SS) (k0 : Nat) : Option (Int32) := fX8_looseBits_l4 N k0 N 0 0 S
set_option maxHeartbeats 4000000 in
set_option maxRecDepth 100000 in
theorem kX8_looseBits {l : Launch} {D : va_G} {dA : Nat → ClassId} {ad : Nat → Nat} {t1 t2 : Nat} {N : Nat} {k0 : Nat} (hk0 : k0 = 18 ∨ k0 = 30) {S T : SS} {o : Nat → Int64} {r : Int32} (hR : fX8_looseBits N S k0 = some r) : KI l D dA ad t1 t2 yX8_looseBits cX8_looseBits 3 .int { frames := 2, cells := 0, slots := 0, locals := 42 } [.ref (ad k0)] S T o r S T := by
  intro sz
  refine en_ (plainFor_of_name (by decide)) (Nat.le_of_ble_eq_true rfl) ?_
  intro p ev s m args below meth c QQ hQ hsz X hr hlk w ls hl
  have hx := X.1
  have hb := X.2.1
  have L4 : ∀ (n : Nat), ∀ (x1 : Int32) (x2 : Int32), fX8_looseBits_l4 N k0 n x1 x2 S = some r → WAT p l ev ({ frames := 2, cells := 0, slots := 0, locals := 42 } : Room) s m args below meth c QQ 3 D dA ad t1 t2 S T o 4 [(0, .ref (ad k0)), (1, .int x1), (2, .int x2)] [] := by
    intro n
    induction n with
    | zero =>
      intro x1 x2 hR
      exact nomatch hR
    | succ n ih =>
      intro x1 x2 hR H locs ls w hl
      rw [fX8_looseBits_l4] at hR
      refine lv_iload_n hx hb dX8_looseBits_4 rfl (lv_at hl 2 rfl) ?_
      refine lv_aload_n hx hb dX8_looseBits_5 rfl (lv_at hl 0 rfl) ?_
      refine gX8_ends hk0 X w lfX8_51 dX8_looseBits_6 ?_
      refine lv_icmp_ge (tgt := 32) hx hb dX8_looseBits_9 (by decide) (fun c1 => ?_) (fun c1 => ?_)
      · rw [if_pos c1] at hR
        refine lv_iload_n hx hb dX8_looseBits_32 rfl (lv_at hl 1 rfl) ?_
        rw [hQ]
        exact rt_i X hr hlk w hsz rfl rfl rfl (lf1 hR) dX8_looseBits_33
      · rw [if_neg c1] at hR
        refine lv_aload_n hx hb dX8_looseBits_12 rfl (lv_at hl 0 rfl) ?_
        refine lv_iload_n hx hb dX8_looseBits_13 rfl (lv_at hl 2 rfl) ?_
        obtain ⟨r3, h2, hR⟩ := bd_e hR
        refine cVi (k := k0) (As := [.int x2]) (rest := []) X hl.1 w okX8_isLoose (obX8 hk0) rfl lmX8_68 (kX8_isLoose hk0 h2) ⟨Nat.le_of_ble_eq_true rfl, Nat.le_of_ble_eq_true rfl⟩ ⟨rfl, rfl⟩ ⟨Nat.zero_le _, Nat.zero_le _⟩ rfl rfl (Nat.le_of_ble_eq_true rfl) dX8_looseBits_14 (fun H locs zr3 w => ?_)
        refine lv_if_eq (tgt := 26) hx hb dX8_looseBits_17 (by decide) (fun c4 => ?_) (fun c4 => ?_)
        · rw [if_pos c4] at hR
          obtain ⟨v5, ev5, hR⟩ := lt_e hR
          refine lv_iinc (v := v5) (lv' := [(2, .int v5), (0, .ref (ad k0)), (1, .int x1)]) hx hb dX8_looseBits_26 hl (k := 2) rfl (by rw [ev5]; rfl) (by decide) rfl (fun ls hl => ?_)
          refine lv_goto (tgt := 4) hx hb dX8_looseBits_29 (by decide) ?_
          exact ih x1 v5 hR _ _ _ w (lv_sub hl [1, 2, 0] rfl)
        · rw [if_neg c4] at hR
          refine lv_iload_n hx hb dX8_looseBits_20 rfl (lv_at hl 1 rfl) ?_
          refine lv_iconst (v := 1) hx hb dX8_looseBits_21 (by decide) ?_
          refine lv_iload_n hx hb dX8_looseBits_22 rfl (lv_at hl 2 rfl) ?_
          refine lv_ishl hx hb dX8_looseBits_23 ?_
          refine lv_ior hx hb dX8_looseBits_24 ?_
          obtain ⟨v6, ev6, hR⟩ := lt_e hR
          refine nm_i ev6 ?_
          refine lv_istore_n (lv' := [(1, .int v6), (0, .ref (ad k0)), (2, .int x2)]) hx hb dX8_looseBits_25 rfl hl (by decide) rfl (fun ls hl => ?_)
          obtain ⟨v7, ev7, hR⟩ := lt_e hR
          refine lv_iinc (v := v7) (lv' := [(2, .int v7), (1, .int v6), (0, .ref (ad k0))]) hx hb dX8_looseBits_26 hl (k := 2) rfl (by rw [ev7]; rfl) (by decide) rfl (fun ls hl => ?_)
          refine lv_goto (tgt := 4) hx hb dX8_looseBits_29 (by decide) ?_
          exact ih v6 v7 hR _ _ _ w (lv_sub hl [2, 1, 0] rfl)
  have hl : lv_has ls 3 [(0, .ref (ad k0))] := hl
  unfold fX8_looseBits at hR
  refine lv_iconst (v := 0) hx hb dX8_looseBits_0 (by decide) ?_
  refine lv_istore_n (lv' := [(1, .int 0), (0, .ref (ad k0))]) hx hb dX8_looseBits_1 rfl hl (by decide) rfl (fun ls hl => ?_)
  refine lv_iconst (v := 0) hx hb dX8_looseBits_2 (by decide) ?_
  refine lv_istore_n (lv' := [(2, .int 0), (1, .int 0), (0, .ref (ad k0))]) hx hb dX8_looseBits_3 rfl hl (by decide) rfl (fun ls hl => ?_)
  exact L4 N 0 0 hR _ _ _ w (lv_sub hl [2, 1, 0] rfl)
/- java/util/Arrays.fill([II)V -/
def fJ7_fill_53178_l5 (N : Nat) (q0 : Nat) : Nat → Int32 → Int32 → Int32 → SS → Option (SS)
  | 0, _, _, _, _ => none
  | n + 1, x1, x2, x3, S => if x3 ≤ x2 then
  (some S)
  else
  (ck (inb x2 (aln S.2.2 q0)) <|
  lt (pa S q0 x2 x1) fun S3 =>
  lt (x2 + 1) fun v4 =>
  fJ7_fill_53178_l5 N q0 n x1 v4 x3 S3)
def fJ7_fill_53178 (N : Nat) (S : SS) (q0 : Nat) (p1 : Int32) : Option (SS) := lt (Int32.ofNat (aln S.2.2 q0)) fun v1 =>
  fJ7_fill_53178_l5 N q0 N p1 0 v1 S
set_option maxHeartbeats 4000000 in
set_option maxRecDepth 100000 in
theorem kJ7_fill_53178 {l : Launch} {D : va_G} {dA : Nat → ClassId} {ad : Nat → Nat} {t1 t2 : Nat} {N : Nat} {q0 : Nat} (hq0 : inK q0 = true ∧ q0 < 52) {S T : SS} {o : Nat → Int64} {p1 : Int32} {S' : SS} (hR : fJ7_fill_53178 N S q0 p1 = some S') : KV l D dA ad t1 t2 yJ7_fill_53178 cJ7_fill_53178 4 { frames := 0, cells := 0, slots := 0, locals := 0 } [.ref (ad q0), .int p1] S T o S' T := by
  intro sz
  refine en_ (plainFor_of_name (by decide)) (Nat.le_of_ble_eq_true rfl) ?_
  intro p ev s m args below meth c QQ hQ hsz X hr hlk w ls hl
  have hx := X.1
  have hb := X.2.1
  have L5 : ∀ (n : Nat), ∀ (x1 : Int32) (x2 : Int32) (x3 : Int32) (S : SS), fJ7_fill_53178_l5 N q0 n x1 x2 x3 S = some S' → WAT p l ev ({ frames := 0, cells := 0, slots := 0, locals := 0 } : Room) s m args below meth c QQ 4 D dA ad t1 t2 S T o 5 [(0, .ref (ad q0)), (1, .int x1), (2, .int x2), (3, .int x3)] [] := by
    intro n
    induction n with
    | zero =>
      intro x1 x2 x3 S hR
      exact nomatch hR
    | succ n ih =>
      intro x1 x2 x3 S hR H locs ls w hl
      rw [fJ7_fill_53178_l5] at hR
      refine lv_iload_n hx hb dJ7_fill_53178_5 rfl (lv_at hl 2 rfl) ?_
      refine lv_iload_n hx hb dJ7_fill_53178_6 rfl (lv_at hl 3 rfl) ?_
      refine lv_icmp_ge (tgt := 20) hx hb dJ7_fill_53178_7 (by decide) (fun c1 => ?_) (fun c1 => ?_)
      · rw [if_pos c1] at hR
        rw [hQ]
        exact rt_v X hr hlk w hsz (lf1 hR) rfl dJ7_fill_53178_20
      · rw [if_neg c1] at hR
        refine lv_aload_n hx hb dJ7_fill_53178_10 rfl (lv_at hl 0 rfl) ?_
        refine lv_iload_n hx hb dJ7_fill_53178_11 rfl (lv_at hl 2 rfl) ?_
        refine lv_iload_n hx hb dJ7_fill_53178_12 rfl (lv_at hl 1 rfl) ?_
        obtain ⟨g2, hR⟩ := ck_e hR
        obtain ⟨S3, eS3, hR⟩ := lt_e hR
        refine iasS (n := (aln S.2.2 q0)) hq0.1 hq0.2 X w rfl g2 dJ7_fill_53178_13 (fun H locs w => ?_)
        rw [← eS3] at w
        obtain ⟨v4, ev4, hR⟩ := lt_e hR
        refine lv_iinc (v := v4) (lv' := [(2, .int v4), (0, .ref (ad q0)), (1, .int x1), (3, .int x3)]) hx hb dJ7_fill_53178_14 hl (k := 2) rfl (by rw [ev4]; rfl) (by decide) rfl (fun ls hl => ?_)
        refine lv_goto (tgt := 5) hx hb dJ7_fill_53178_17 (by decide) ?_
        exact ih x1 v4 x3 S3 hR _ _ _ w (lv_sub hl [1, 2, 0, 3] rfl)
  have hl : lv_has ls 4 [(0, .ref (ad q0)), (1, .int p1)] := hl
  unfold fJ7_fill_53178 at hR
  refine lv_iconst (v := 0) hx hb dJ7_fill_53178_0 (by decide) ?_
  refine lv_istore_n (lv' := [(2, .int 0), (0, .ref (ad q0)), (1, .int p1)]) hx hb dJ7_fill_53178_1 rfl hl (by decide) rfl (fun ls hl => ?_)
  refine lv_aload_n hx hb dJ7_fill_53178_2 rfl (lv_at hl 1 rfl) ?_
  refine lenS hq0.1 hq0.2 X w rfl dJ7_fill_53178_3 ?_
  obtain ⟨v1, ev1, hR⟩ := lt_e hR
  refine nm_i ev1 ?_
  refine lv_istore_n (lv' := [(3, .int v1), (2, .int 0), (0, .ref (ad q0)), (1, .int p1)]) hx hb dJ7_fill_53178_4 rfl hl (by decide) rfl (fun ls hl => ?_)
  exact L5 N p1 0 v1 S hR _ _ _ w (lv_sub hl [2, 3, 1, 0] rfl)
/- LooseEnds$Advice.findFollowers(II)V -/
def fX0_findFollowers_l26 (N : Nat) (kc10 : Int32 → Int32 → Int32 → SS → Option (SS)) : Nat → Int32 → Int32 → Int32 → Int32 → SS → Option (SS)
  | 0, _, _, _, _, _ => none
  | n + 1, x1, x2, x3, x4, S => if (gi S 18 4) ≤ x4 then
  (lt (x3 + 1) fun v2 =>
  kc10 x1 x2 v2 S)
  else
  (lt ((sl 1 x3) ||| (sl 1 x4)) fun v3 =>
  if (x1 &&& v3) = v3 then
  (b2 (fX10_goesWith N S 18 x3 x4 x2) fun S8 r7 =>
  if r7 = 0 then
  (lt (x4 + 1) fun v10 =>
  fX0_findFollowers_l26 N kc10 n x1 x2 x3 v10 S8)
  else
  (ck (inb x3 7) <|
  ck (inb x3 7) <|
  lt (pa S8 35 x3 ((ga S8 35 x3) ||| (sl 1 x4))) fun S13 =>
  ck (inb x4 7) <|
  ck (inb x4 7) <|
  lt (pa S13 35 x4 ((ga S13 35 x4) ||| (sl 1 x3))) fun S16 =>
  lt (x4 + 1) fun v17 =>
  fX0_findFollowers_l26 N kc10 n x1 x2 x3 v17 S16))
  else
  (lt (x4 + 1) fun v5 =>
  fX0_findFollowers_l26 N kc10 n x1 x2 x3 v5 S))
def fX0_findFollowers_l10 (N : Nat) : Nat → Int32 → Int32 → Int32 → SS → Option (SS)
  | 0, _, _, _, _ => none
  | n + 1, x1, x2, x3, S => if (gi S 18 4) ≤ x3 then
  (some S)
  else
  (lt (x3 + 1) fun v2 =>
  fX0_findFollowers_l26 N (fX0_findFollowers_l10 N n) N x1 x2 x3 v2 S)
def fX0_findFollowers (N : Nat) (S : SS) (p1 : Int32) (p2 : Int32) : Option (SS) := bd (fJ7_fill_53178 N S 35 0) fun S2 =>
  fX0_findFollowers_l10 N N p1 p2 0 S2
set_option maxHeartbeats 4000000 in
set_option maxRecDepth 100000 in
theorem kX0_findFollowers {l : Launch} {D : va_G} {dA : Nat → ClassId} {ad : Nat → Nat} {t1 t2 : Nat} {N : Nat} {S T : SS} {o : Nat → Int64} {p1 : Int32} {p2 : Int32} {S' : SS} (hR : fX0_findFollowers N S p1 p2 = some S') : KV l D dA ad t1 t2 yX0_findFollowers cX0_findFollowers 6 { frames := 4, cells := 0, slots := 0, locals := 101 } [.ref (ad 29), .int p1, .int p2] S T o S' T := by
  intro sz
  refine en_ (plainFor_of_name (by decide)) (Nat.le_of_ble_eq_true rfl) ?_
  intro p ev s m args below meth c QQ hQ hsz X hr hlk w ls hl
  have hx := X.1
  have hb := X.2.1
  have L26 : ∀ (kc10 : Int32 → Int32 → Int32 → SS → Option (SS)) (_ : ∀ (x1 : Int32) (x2 : Int32) (x3 : Int32) (S : SS), kc10 x1 x2 x3 S = some S' → WAT p l ev ({ frames := 4, cells := 0, slots := 0, locals := 101 } : Room) s m args below meth c QQ 6 D dA ad t1 t2 S T o 10 [(0, .ref (ad 29)), (1, .int x1), (2, .int x2), (3, .int x3)] []) (n : Nat), ∀ (x1 : Int32) (x2 : Int32) (x3 : Int32) (x4 : Int32) (S : SS), fX0_findFollowers_l26 N kc10 n x1 x2 x3 x4 S = some S' → WAT p l ev ({ frames := 4, cells := 0, slots := 0, locals := 101 } : Room) s m args below meth c QQ 6 D dA ad t1 t2 S T o 26 [(0, .ref (ad 29)), (1, .int x1), (2, .int x2), (3, .int x3), (4, .int x4)] [] := by
    intro kc10 hk10 n
    induction n with
    | zero =>
      intro x1 x2 x3 x4 S hR
      exact nomatch hR
    | succ n ih =>
      intro x1 x2 x3 x4 S hR H locs ls w hl
      rw [fX0_findFollowers_l26] at hR
      refine lv_iload hx hb dX0_findFollowers_26 (lv_at hl 4 rfl) ?_
      refine lv_aload_n hx hb dX0_findFollowers_28 rfl (lv_at hl 0 rfl) ?_
      refine gX0_now X w lfX0_42 dX0_findFollowers_29 ?_
      refine gX8_ends (Or.inl rfl) X w lfX0_49 dX0_findFollowers_32 ?_
      refine lv_icmp_ge (tgt := 107) hx hb dX0_findFollowers_35 (by decide) (fun c1 => ?_) (fun c1 => ?_)
      · rw [if_pos c1] at hR
        obtain ⟨v2, ev2, hR⟩ := lt_e hR
        refine lv_iinc (v := v2) (lv' := [(3, .int v2), (0, .ref (ad 29)), (1, .int x1), (2, .int x2), (4, .int x4)]) hx hb dX0_findFollowers_107 hl (k := 3) rfl (by rw [ev2]; rfl) (by decide) rfl (fun ls hl => ?_)
        refine lv_goto (tgt := 10) hx hb dX0_findFollowers_110 (by decide) ?_
        exact hk10 x1 x2 v2 S hR _ _ _ w (lv_sub hl [1, 2, 3, 0] rfl)
      · rw [if_neg c1] at hR
        refine lv_iconst (v := 1) hx hb dX0_findFollowers_38 (by decide) ?_
        refine lv_iload_n hx hb dX0_findFollowers_39 rfl (lv_at hl 3 rfl) ?_
        refine lv_ishl hx hb dX0_findFollowers_40 ?_
        refine lv_iconst (v := 1) hx hb dX0_findFollowers_41 (by decide) ?_
        refine lv_iload hx hb dX0_findFollowers_42 (lv_at hl 4 rfl) ?_
        refine lv_ishl hx hb dX0_findFollowers_44 ?_
        refine lv_ior hx hb dX0_findFollowers_45 ?_
        obtain ⟨v3, ev3, hR⟩ := lt_e hR
        refine nm_i ev3 ?_
        refine lv_istore (lv' := [(5, .int v3), (0, .ref (ad 29)), (1, .int x1), (2, .int x2), (3, .int x3), (4, .int x4)]) hx hb dX0_findFollowers_46 hl (by decide) rfl (fun ls hl => ?_)
        refine lv_iload_n hx hb dX0_findFollowers_48 rfl (lv_at hl 2 rfl) ?_
        refine lv_iload hx hb dX0_findFollowers_49 (lv_at hl 0 rfl) ?_
        refine lv_iand hx hb dX0_findFollowers_51 ?_
        refine lv_iload hx hb dX0_findFollowers_52 (lv_at hl 0 rfl) ?_
        refine lv_icmp_ne (tgt := 101) hx hb dX0_findFollowers_54 (by decide) (fun c4 => ?_) (fun c4 => ?_)
        · rw [if_neg c4] at hR
          obtain ⟨v5, ev5, hR⟩ := lt_e hR
          refine lv_iinc (v := v5) (lv' := [(4, .int v5), (5, .int v3), (0, .ref (ad 29)), (1, .int x1), (2, .int x2), (3, .int x3)]) hx hb dX0_findFollowers_101 hl (k := 5) rfl (by rw [ev5]; rfl) (by decide) rfl (fun ls hl => ?_)
          refine lv_goto (tgt := 26) hx hb dX0_findFollowers_104 (by decide) ?_
          exact ih x1 x2 x3 v5 S hR _ _ _ w (lv_sub hl [2, 3, 4, 5, 0] rfl)
        · rw [if_pos c4] at hR
          refine lv_aload_n hx hb dX0_findFollowers_57 rfl (lv_at hl 1 rfl) ?_
          refine gX0_works X w lfX0_38 dX0_findFollowers_58 ?_
          refine lv_aload_n hx hb dX0_findFollowers_61 rfl (lv_at hl 1 rfl) ?_
          refine gX0_now X w lfX0_42 dX0_findFollowers_62 ?_
          refine lv_iload_n hx hb dX0_findFollowers_65 rfl (lv_at hl 4 rfl) ?_
          refine lv_iload hx hb dX0_findFollowers_66 (lv_at hl 5 rfl) ?_
          refine lv_iload_n hx hb dX0_findFollowers_68 rfl (lv_at hl 3 rfl) ?_
          obtain ⟨S8, r7, h6, hR⟩ := b2_e hR
          refine cVi (k := 28) (As := [.ref (ad 18), .int x3, .int x4, .int x2]) (rest := []) X hl.1 w okX10_goesWith obX10 rfl lmX0_57 (kX10_goesWith (Or.inl rfl) h6) ⟨Nat.le_of_ble_eq_true rfl, Nat.le_of_ble_eq_true rfl⟩ ⟨rfl, rfl⟩ ⟨Nat.zero_le _, Nat.zero_le _⟩ rfl rfl (Nat.le_of_ble_eq_true rfl) dX0_findFollowers_69 (fun H locs zr7 w => ?_)
          refine lv_if_eq (tgt := 101) hx hb dX0_findFollowers_72 (by decide) (fun c9 => ?_) (fun c9 => ?_)
          · rw [if_pos c9] at hR
            obtain ⟨v10, ev10, hR⟩ := lt_e hR
            refine lv_iinc (v := v10) (lv' := [(4, .int v10), (5, .int v3), (0, .ref (ad 29)), (1, .int x1), (2, .int x2), (3, .int x3)]) hx hb dX0_findFollowers_101 hl (k := 5) rfl (by rw [ev10]; rfl) (by decide) rfl (fun ls hl => ?_)
            refine lv_goto (tgt := 26) hx hb dX0_findFollowers_104 (by decide) ?_
            exact ih x1 x2 x3 v10 S8 hR _ _ _ w (lv_sub hl [2, 3, 4, 5, 0] rfl)
          · rw [if_neg c9] at hR
            refine lv_aload_n hx hb dX0_findFollowers_75 rfl (lv_at hl 1 rfl) ?_
            refine gX0_partners X w lfX0_18 dX0_findFollowers_76 ?_
            refine lv_iload_n hx hb dX0_findFollowers_79 rfl (lv_at hl 4 rfl) ?_
            refine lv_dup2_11 hx hb dX0_findFollowers_80 rfl rfl ?_
            obtain ⟨g11, hR⟩ := ck_e hR
            refine ialS (n := 7) rfl (by decide) X w rfl g11 dX0_findFollowers_81 ?_
            refine lv_iconst (v := 1) hx hb dX0_findFollowers_82 (by decide) ?_
            refine lv_iload hx hb dX0_findFollowers_83 (lv_at hl 5 rfl) ?_
            refine lv_ishl hx hb dX0_findFollowers_85 ?_
            refine lv_ior hx hb dX0_findFollowers_86 ?_
            obtain ⟨g12, hR⟩ := ck_e hR
            obtain ⟨S13, eS13, hR⟩ := lt_e hR
            refine iasS (n := 7) rfl (by decide) X w rfl g12 dX0_findFollowers_87 (fun H locs w => ?_)
            rw [← eS13] at w
            refine lv_aload_n hx hb dX0_findFollowers_88 rfl (lv_at hl 1 rfl) ?_
            refine gX0_partners X w lfX0_18 dX0_findFollowers_89 ?_
            refine lv_iload hx hb dX0_findFollowers_92 (lv_at hl 5 rfl) ?_
            refine lv_dup2_11 hx hb dX0_findFollowers_94 rfl rfl ?_
            obtain ⟨g14, hR⟩ := ck_e hR
            refine ialS (n := 7) rfl (by decide) X w rfl g14 dX0_findFollowers_95 ?_
            refine lv_iconst (v := 1) hx hb dX0_findFollowers_96 (by decide) ?_
            refine lv_iload_n hx hb dX0_findFollowers_97 rfl (lv_at hl 4 rfl) ?_
            refine lv_ishl hx hb dX0_findFollowers_98 ?_
            refine lv_ior hx hb dX0_findFollowers_99 ?_
            obtain ⟨g15, hR⟩ := ck_e hR
            obtain ⟨S16, eS16, hR⟩ := lt_e hR
            refine iasS (n := 7) rfl (by decide) X w rfl g15 dX0_findFollowers_100 (fun H locs w => ?_)
            rw [← eS16] at w
            obtain ⟨v17, ev17, hR⟩ := lt_e hR
            refine lv_iinc (v := v17) (lv' := [(4, .int v17), (5, .int v3), (0, .ref (ad 29)), (1, .int x1), (2, .int x2), (3, .int x3)]) hx hb dX0_findFollowers_101 hl (k := 5) rfl (by rw [ev17]; rfl) (by decide) rfl (fun ls hl => ?_)
            refine lv_goto (tgt := 26) hx hb dX0_findFollowers_104 (by decide) ?_
            exact ih x1 x2 x3 v17 S16 hR _ _ _ w (lv_sub hl [2, 3, 4, 5, 0] rfl)
  have L10 : ∀ (n : Nat), ∀ (x1 : Int32) (x2 : Int32) (x3 : Int32) (S : SS), fX0_findFollowers_l10 N n x1 x2 x3 S = some S' → WAT p l ev ({ frames := 4, cells := 0, slots := 0, locals := 101 } : Room) s m args below meth c QQ 6 D dA ad t1 t2 S T o 10 [(0, .ref (ad 29)), (1, .int x1), (2, .int x2), (3, .int x3)] [] := by
    intro n
    induction n with
    | zero =>
      intro x1 x2 x3 S hR
      exact nomatch hR
    | succ n ih =>
      intro x1 x2 x3 S hR H locs ls w hl
      rw [fX0_findFollowers_l10] at hR
      refine lv_iload_n hx hb dX0_findFollowers_10 rfl (lv_at hl 3 rfl) ?_
      refine lv_aload_n hx hb dX0_findFollowers_11 rfl (lv_at hl 0 rfl) ?_
      refine gX0_now X w lfX0_42 dX0_findFollowers_12 ?_
      refine gX8_ends (Or.inl rfl) X w lfX0_49 dX0_findFollowers_15 ?_
      refine lv_icmp_ge (tgt := 113) hx hb dX0_findFollowers_18 (by decide) (fun c1 => ?_) (fun c1 => ?_)
      · rw [if_pos c1] at hR
        rw [hQ]
        exact rt_v X hr hlk w hsz (lf1 hR) rfl dX0_findFollowers_113
      · rw [if_neg c1] at hR
        refine lv_iload_n hx hb dX0_findFollowers_21 rfl (lv_at hl 3 rfl) ?_
        refine lv_iconst (v := 1) hx hb dX0_findFollowers_22 (by decide) ?_
        refine lv_iadd hx hb dX0_findFollowers_23 ?_
        obtain ⟨v2, ev2, hR⟩ := lt_e hR
        refine nm_i ev2 ?_
        refine lv_istore (lv' := [(4, .int v2), (0, .ref (ad 29)), (1, .int x1), (2, .int x2), (3, .int x3)]) hx hb dX0_findFollowers_24 hl (by decide) rfl (fun ls hl => ?_)
        exact L26 _ ih N x1 x2 x3 v2 S hR _ _ _ w (lv_sub hl [1, 2, 3, 4, 0] rfl)
  have hl : lv_has ls 6 [(0, .ref (ad 29)), (1, .int p1), (2, .int p2)] := hl
  unfold fX0_findFollowers at hR
  refine lv_aload_n hx hb dX0_findFollowers_0 rfl (lv_at hl 0 rfl) ?_
  refine gX0_partners X w lfX0_18 dX0_findFollowers_1 ?_
  refine lv_iconst (v := 0) hx hb dX0_findFollowers_4 (by decide) ?_
  obtain ⟨S2, h1, hR⟩ := bd_e hR
  refine cSv (As := [.ref (ad 35), .int 0]) (rest := []) X hl.1 w okJ7_fill_53178 lmX0_104 (kJ7_fill_53178 ⟨rfl, (by decide)⟩ h1) ⟨Nat.le_of_ble_eq_true rfl, Nat.le_of_ble_eq_true rfl⟩ ⟨rfl, rfl⟩ ⟨Nat.zero_le _, Nat.zero_le _⟩ rfl rfl (Nat.le_of_ble_eq_true rfl) dX0_findFollowers_5 (fun H locs w => ?_)
  refine lv_iconst (v := 0) hx hb dX0_findFollowers_8 (by decide) ?_
  refine lv_istore_n (lv' := [(3, .int 0), (0, .ref (ad 29)), (1, .int p1), (2, .int p2)]) hx hb dX0_findFollowers_9 rfl hl (by decide) rfl (fun ls hl => ?_)
  exact L10 N p1 p2 0 S2 hR _ _ _ w (lv_sub hl [1, 2, 3, 0] rfl)
/- LooseEnds$Advice.lengthenRow(II)V -/
def fX0_lengthenRow_l33 (N : Nat) : Nat → Int32 → Int32 → Int32 → Int32 → SS → Option (SS)
  | 0, _, _, _, _, _ => none
  | n + 1, x1, x3, x4, x5, S => if (gi S 18 4) ≤ x5 then
  (some S)
  else
  (if ((sr x4 x5) &&& 1) = 1 then
  (lt (((x1 ||| (sl 1 x5)) * 7) + x5) fun v4 =>
  lt ((x3 * 10) + x5) fun v5 =>
  ck (inb v4 896) <|
  if (ga S 37 v4) = (-1) then
  (ck (inb v4 896) <|
  lt (pa S 37 v4 v5) fun S9 =>
  lt (x5 + 1) fun v10 =>
  fX0_lengthenRow_l33 N n x1 x3 x4 v10 S9)
  else
  (ck (inb v4 896) <|
  if (ga S 37 v4) ≤ v5 then
  (lt (x5 + 1) fun v13 =>
  fX0_lengthenRow_l33 N n x1 x3 x4 v13 S)
  else
  (ck (inb v4 896) <|
  lt (pa S 37 v4 v5) fun S15 =>
  lt (x5 + 1) fun v16 =>
  fX0_lengthenRow_l33 N n x1 x3 x4 v16 S15)))
  else
  (lt (x5 + 1) fun v3 =>
  fX0_lengthenRow_l33 N n x1 x3 x4 v3 S))
def fX0_lengthenRow (N : Nat) (S : SS) (p1 : Int32) (p2 : Int32) : Option (SS) := ck (inb ((p1 * 7) + p2) 896) <|
  lt (ga S 37 ((p1 * 7) + p2)) fun v2 =>
  if v2 = (-1) then
  (some S)
  else
  (ck (inb p2 7) <|
  lt ((ga S 35 p2) &&& (p1 ^^^ (-1))) fun v5 =>
  fX0_lengthenRow_l33 N N p1 v2 v5 0 S)
set_option maxHeartbeats 4000000 in
set_option maxRecDepth 100000 in
theorem kX0_lengthenRow {l : Launch} {D : va_G} {dA : Nat → ClassId} {ad : Nat → Nat} {t1 t2 : Nat} {N : Nat} {S T : SS} {o : Nat → Int64} {p1 : Int32} {p2 : Int32} {S' : SS} (hR : fX0_lengthenRow N S p1 p2 = some S') : KV l D dA ad t1 t2 yX0_lengthenRow cX0_lengthenRow 8 { frames := 0, cells := 0, slots := 0, locals := 0 } [.ref (ad 29), .int p1, .int p2] S T o S' T := by
  intro sz
  refine en_ (plainFor_of_name (by decide)) (Nat.le_of_ble_eq_true rfl) ?_
  intro p ev s m args below meth c QQ hQ hsz X hr hlk w ls hl
  have hx := X.1
  have hb := X.2.1
  have L33 : ∀ (n : Nat), ∀ (x1 : Int32) (x3 : Int32) (x4 : Int32) (x5 : Int32) (S : SS), fX0_lengthenRow_l33 N n x1 x3 x4 x5 S = some S' → WAT p l ev ({ frames := 0, cells := 0, slots := 0, locals := 0 } : Room) s m args below meth c QQ 8 D dA ad t1 t2 S T o 33 [(0, .ref (ad 29)), (1, .int x1), (3, .int x3), (4, .int x4), (5, .int x5)] [] := by
    intro n
    induction n with
    | zero =>
      intro x1 x3 x4 x5 S hR
      exact nomatch hR
    | succ n ih =>
      intro x1 x3 x4 x5 S hR H locs ls w hl
      rw [fX0_lengthenRow_l33] at hR
      refine lv_iload hx hb dX0_lengthenRow_33 (lv_at hl 4 rfl) ?_
      refine lv_aload_n hx hb dX0_lengthenRow_35 rfl (lv_at hl 0 rfl) ?_
      refine gX0_now X w lfX0_42 dX0_lengthenRow_36 ?_
      refine gX8_ends (Or.inl rfl) X w lfX0_49 dX0_lengthenRow_39 ?_
      refine lv_icmp_ge (tgt := 117) hx hb dX0_lengthenRow_42 (by decide) (fun c1 => ?_) (fun c1 => ?_)
      · rw [if_pos c1] at hR
        rw [hQ]
        exact rt_v X hr hlk w hsz (lf1 hR) rfl dX0_lengthenRow_117
      · rw [if_neg c1] at hR
        refine lv_iload hx hb dX0_lengthenRow_45 (lv_at hl 3 rfl) ?_
        refine lv_iload hx hb dX0_lengthenRow_47 (lv_at hl 4 rfl) ?_
        refine lv_ishr hx hb dX0_lengthenRow_49 ?_
        refine lv_iconst (v := 1) hx hb dX0_lengthenRow_50 (by decide) ?_
        refine lv_iand hx hb dX0_lengthenRow_51 ?_
        refine lv_iconst (v := 1) hx hb dX0_lengthenRow_52 (by decide) ?_
        refine lv_icmp_ne (tgt := 111) hx hb dX0_lengthenRow_53 (by decide) (fun c2 => ?_) (fun c2 => ?_)
        · rw [if_neg c2] at hR
          obtain ⟨v3, ev3, hR⟩ := lt_e hR
          refine lv_iinc (v := v3) (lv' := [(5, .int v3), (0, .ref (ad 29)), (1, .int x1), (3, .int x3), (4, .int x4)]) hx hb dX0_lengthenRow_111 hl (k := 4) rfl (by rw [ev3]; rfl) (by decide) rfl (fun ls hl => ?_)
          refine lv_goto (tgt := 33) hx hb dX0_lengthenRow_114 (by decide) ?_
          exact ih x1 x3 x4 v3 S hR _ _ _ w (lv_sub hl [1, 2, 3, 4, 0] rfl)
        · rw [if_pos c2] at hR
          refine lv_iload_n hx hb dX0_lengthenRow_56 rfl (lv_at hl 1 rfl) ?_
          refine lv_iconst (v := 1) hx hb dX0_lengthenRow_57 (by decide) ?_
          refine lv_iload hx hb dX0_lengthenRow_58 (lv_at hl 4 rfl) ?_
          refine lv_ishl hx hb dX0_lengthenRow_60 ?_
          refine lv_ior hx hb dX0_lengthenRow_61 ?_
          refine lv_bipush (v := 7) hx hb dX0_lengthenRow_62 (by decide) ?_
          refine lv_imul hx hb dX0_lengthenRow_64 ?_
          refine lv_iload hx hb dX0_lengthenRow_65 (lv_at hl 4 rfl) ?_
          refine lv_iadd hx hb dX0_lengthenRow_67 ?_
          obtain ⟨v4, ev4, hR⟩ := lt_e hR
          refine nm_i ev4 ?_
          refine lv_istore (lv' := [(6, .int v4), (0, .ref (ad 29)), (1, .int x1), (3, .int x3), (4, .int x4), (5, .int x5)]) hx hb dX0_lengthenRow_68 hl (by decide) rfl (fun ls hl => ?_)
          refine lv_iload_n hx hb dX0_lengthenRow_70 rfl (lv_at hl 3 rfl) ?_
          refine lv_bipush (v := 10) hx hb dX0_lengthenRow_71 (by decide) ?_
          refine lv_imul hx hb dX0_lengthenRow_73 ?_
          refine lv_iload hx hb dX0_lengthenRow_74 (lv_at hl 5 rfl) ?_
          refine lv_iadd hx hb dX0_lengthenRow_76 ?_
          obtain ⟨v5, ev5, hR⟩ := lt_e hR
          refine nm_i ev5 ?_
          refine lv_istore (lv' := [(7, .int v5), (6, .int v4), (0, .ref (ad 29)), (1, .int x1), (3, .int x3), (4, .int x4), (5, .int x5)]) hx hb dX0_lengthenRow_77 hl (by decide) rfl (fun ls hl => ?_)
          refine lv_aload_n hx hb dX0_lengthenRow_79 rfl (lv_at hl 2 rfl) ?_
          refine gX0_rows X w lfX0_25 dX0_lengthenRow_80 ?_
          refine lv_iload hx hb dX0_lengthenRow_83 (lv_at hl 1 rfl) ?_
          obtain ⟨g6, hR⟩ := ck_e hR
          refine ialS (n := 896) rfl (by decide) X w rfl g6 dX0_lengthenRow_85 ?_
          refine lv_iconst (v := -1) hx hb dX0_lengthenRow_86 (by decide) ?_
          refine lv_icmp_eq (tgt := 102) hx hb dX0_lengthenRow_87 (by decide) (fun c7 => ?_) (fun c7 => ?_)
          · rw [if_pos c7] at hR
            refine lv_aload_n hx hb dX0_lengthenRow_102 rfl (lv_at hl 2 rfl) ?_
            refine gX0_rows X w lfX0_25 dX0_lengthenRow_103 ?_
            refine lv_iload hx hb dX0_lengthenRow_106 (lv_at hl 1 rfl) ?_
            refine lv_iload hx hb dX0_lengthenRow_108 (lv_at hl 0 rfl) ?_
            obtain ⟨g8, hR⟩ := ck_e hR
            obtain ⟨S9, eS9, hR⟩ := lt_e hR
            refine iasS (n := 896) rfl (by decide) X w rfl g8 dX0_lengthenRow_110 (fun H locs w => ?_)
            rw [← eS9] at w
            obtain ⟨v10, ev10, hR⟩ := lt_e hR
            refine lv_iinc (v := v10) (lv' := [(5, .int v10), (7, .int v5), (6, .int v4), (0, .ref (ad 29)), (1, .int x1), (3, .int x3), (4, .int x4)]) hx hb dX0_lengthenRow_111 hl (k := 6) rfl (by rw [ev10]; rfl) (by decide) rfl (fun ls hl => ?_)
            refine lv_goto (tgt := 33) hx hb dX0_lengthenRow_114 (by decide) ?_
            exact ih x1 x3 x4 v10 S9 hR _ _ _ w (lv_sub hl [3, 4, 5, 6, 0] rfl)
          · rw [if_neg c7] at hR
            refine lv_iload hx hb dX0_lengthenRow_90 (lv_at hl 0 rfl) ?_
            refine lv_aload_n hx hb dX0_lengthenRow_92 rfl (lv_at hl 2 rfl) ?_
            refine gX0_rows X w lfX0_25 dX0_lengthenRow_93 ?_
            refine lv_iload hx hb dX0_lengthenRow_96 (lv_at hl 1 rfl) ?_
            obtain ⟨g11, hR⟩ := ck_e hR
            refine ialS (n := 896) rfl (by decide) X w rfl g11 dX0_lengthenRow_98 ?_
            refine lv_icmp_ge (tgt := 111) hx hb dX0_lengthenRow_99 (by decide) (fun c12 => ?_) (fun c12 => ?_)
            · rw [if_pos c12] at hR
              obtain ⟨v13, ev13, hR⟩ := lt_e hR
              refine lv_iinc (v := v13) (lv' := [(5, .int v13), (7, .int v5), (6, .int v4), (0, .ref (ad 29)), (1, .int x1), (3, .int x3), (4, .int x4)]) hx hb dX0_lengthenRow_111 hl (k := 6) rfl (by rw [ev13]; rfl) (by decide) rfl (fun ls hl => ?_)
              refine lv_goto (tgt := 33) hx hb dX0_lengthenRow_114 (by decide) ?_
              exact ih x1 x3 x4 v13 S hR _ _ _ w (lv_sub hl [3, 4, 5, 6, 0] rfl)
            · rw [if_neg c12] at hR
              refine lv_aload_n hx hb dX0_lengthenRow_102 rfl (lv_at hl 2 rfl) ?_
              refine gX0_rows X w lfX0_25 dX0_lengthenRow_103 ?_
              refine lv_iload hx hb dX0_lengthenRow_106 (lv_at hl 1 rfl) ?_
              refine lv_iload hx hb dX0_lengthenRow_108 (lv_at hl 0 rfl) ?_
              obtain ⟨g14, hR⟩ := ck_e hR
              obtain ⟨S15, eS15, hR⟩ := lt_e hR
              refine iasS (n := 896) rfl (by decide) X w rfl g14 dX0_lengthenRow_110 (fun H locs w => ?_)
              rw [← eS15] at w
              obtain ⟨v16, ev16, hR⟩ := lt_e hR
              refine lv_iinc (v := v16) (lv' := [(5, .int v16), (7, .int v5), (6, .int v4), (0, .ref (ad 29)), (1, .int x1), (3, .int x3), (4, .int x4)]) hx hb dX0_lengthenRow_111 hl (k := 6) rfl (by rw [ev16]; rfl) (by decide) rfl (fun ls hl => ?_)
              refine lv_goto (tgt := 33) hx hb dX0_lengthenRow_114 (by decide) ?_
              exact ih x1 x3 x4 v16 S15 hR _ _ _ w (lv_sub hl [3, 4, 5, 6, 0] rfl)
  have hl : lv_has ls 8 [(0, .ref (ad 29)), (1, .int p1), (2, .int p2)] := hl
  unfold fX0_lengthenRow at hR
  refine lv_aload_n hx hb dX0_lengthenRow_0 rfl (lv_at hl 0 rfl) ?_
  refine gX0_rows X w lfX0_25 dX0_lengthenRow_1 ?_
  refine lv_iload_n hx hb dX0_lengthenRow_4 rfl (lv_at hl 1 rfl) ?_
  refine lv_bipush (v := 7) hx hb dX0_lengthenRow_5 (by decide) ?_
  refine lv_imul hx hb dX0_lengthenRow_7 ?_
  refine lv_iload_n hx hb dX0_lengthenRow_8 rfl (lv_at hl 2 rfl) ?_
  refine lv_iadd hx hb dX0_lengthenRow_9 ?_
  obtain ⟨g1, hR⟩ := ck_e hR
  refine ialS (n := 896) rfl (by decide) X w rfl g1 dX0_lengthenRow_10 ?_
  obtain ⟨v2, ev2, hR⟩ := lt_e hR
  refine nm_i ev2 ?_
  refine lv_istore_n (lv' := [(3, .int v2), (0, .ref (ad 29)), (1, .int p1), (2, .int p2)]) hx hb dX0_lengthenRow_11 rfl hl (by decide) rfl (fun ls hl => ?_)
  refine lv_iload_n hx hb dX0_lengthenRow_12 rfl (lv_at hl 0 rfl) ?_
  refine lv_iconst (v := -1) hx hb dX0_lengthenRow_13 (by decide) ?_
  refine lv_icmp_ne (tgt := 18) hx hb dX0_lengthenRow_14 (by decide) (fun c3 => ?_) (fun c3 => ?_)
  · rw [if_neg c3] at hR
    refine lv_aload_n hx hb dX0_lengthenRow_18 rfl (lv_at hl 1 rfl) ?_
    refine gX0_partners X w lfX0_18 dX0_lengthenRow_19 ?_
    refine lv_iload_n hx hb dX0_lengthenRow_22 rfl (lv_at hl 3 rfl) ?_
    obtain ⟨g4, hR⟩ := ck_e hR
    refine ialS (n := 7) rfl (by decide) X w rfl g4 dX0_lengthenRow_23 ?_
    refine lv_iload_n hx hb dX0_lengthenRow_24 rfl (lv_at hl 2 rfl) ?_
    refine lv_iconst (v := -1) hx hb dX0_lengthenRow_25 (by decide) ?_
    refine lv_ixor hx hb dX0_lengthenRow_26 ?_
    refine lv_iand hx hb dX0_lengthenRow_27 ?_
    obtain ⟨v5, ev5, hR⟩ := lt_e hR
    refine nm_i ev5 ?_
    refine lv_istore (lv' := [(4, .int v5), (3, .int v2), (0, .ref (ad 29)), (1, .int p1), (2, .int p2)]) hx hb dX0_lengthenRow_28 hl (by decide) rfl (fun ls hl => ?_)
    refine lv_iconst (v := 0) hx hb dX0_lengthenRow_30 (by decide) ?_
    refine lv_istore (lv' := [(5, .int 0), (4, .int v5), (3, .int v2), (0, .ref (ad 29)), (1, .int p1), (2, .int p2)]) hx hb dX0_lengthenRow_31 hl (by decide) rfl (fun ls hl => ?_)
    exact L33 N p1 v2 v5 0 S hR _ _ _ w (lv_sub hl [3, 4, 2, 1, 0] rfl)
  · rw [if_pos c3] at hR
    rw [hQ]
    exact rt_v X hr hlk w hsz (lf1 hR) rfl dX0_lengthenRow_17
/- LooseEnds$Advice.lengthenRows(I)V -/
def fX0_lengthenRows_l25 (N : Nat) (kc2 : Int32 → Int32 → SS → Option (SS)) : Nat → Int32 → Int32 → Int32 → SS → Option (SS)
  | 0, _, _, _, _ => none
  | n + 1, x1, x2, x3, S => if (gi S 18 4) ≤ x3 then
  (lt (x2 + 1) fun v2 =>
  kc2 x1 v2 S)
  else
  (bd (fX0_lengthenRow N S x2 x3) fun S4 =>
  lt (x3 + 1) fun v5 =>
  fX0_lengthenRows_l25 N kc2 n x1 x2 v5 S4)
def fX0_lengthenRows_l2 (N : Nat) : Nat → Int32 → Int32 → SS → Option (SS)
  | 0, _, _, _ => none
  | n + 1, x1, x2, S => if (sl 1 (gi S 18 4)) ≤ x2 then
  (some S)
  else
  (bd (fJ6_bitCount_0f7a4 N x2) fun r3 =>
  if r3 = x1 then
  (fX0_lengthenRows_l25 N (fX0_lengthenRows_l2 N n) N x1 x2 0 S)
  else
  (lt (x2 + 1) fun v5 =>
  fX0_lengthenRows_l2 N n x1 v5 S))
def fX0_lengthenRows (N : Nat) (S : SS) (p1 : Int32) : Option (SS) := fX0_lengthenRows_l2 N N p1 1 S
set_option maxHeartbeats 4000000 in
set_option maxRecDepth 100000 in
theorem kX0_lengthenRows {l : Launch} {D : va_G} {dA : Nat → ClassId} {ad : Nat → Nat} {t1 t2 : Nat} {N : Nat} {S T : SS} {o : Nat → Int64} {p1 : Int32} {S' : SS} (hR : fX0_lengthenRows N S p1 = some S') : KV l D dA ad t1 t2 yX0_lengthenRows cX0_lengthenRows 4 { frames := 1, cells := 0, slots := 0, locals := 27 } [.ref (ad 29), .int p1] S T o S' T := by
  intro sz
  refine en_ (plainFor_of_name (by decide)) (Nat.le_of_ble_eq_true rfl) ?_
  intro p ev s m args below meth c QQ hQ hsz X hr hlk w ls hl
  have hx := X.1
  have hb := X.2.1
  have L25 : ∀ (kc2 : Int32 → Int32 → SS → Option (SS)) (_ : ∀ (x1 : Int32) (x2 : Int32) (S : SS), kc2 x1 x2 S = some S' → WAT p l ev ({ frames := 1, cells := 0, slots := 0, locals := 27 } : Room) s m args below meth c QQ 4 D dA ad t1 t2 S T o 2 [(0, .ref (ad 29)), (1, .int x1), (2, .int x2)] []) (n : Nat), ∀ (x1 : Int32) (x2 : Int32) (x3 : Int32) (S : SS), fX0_lengthenRows_l25 N kc2 n x1 x2 x3 S = some S' → WAT p l ev ({ frames := 1, cells := 0, slots := 0, locals := 27 } : Room) s m args below meth c QQ 4 D dA ad t1 t2 S T o 25 [(0, .ref (ad 29)), (1, .int x1), (2, .int x2), (3, .int x3)] [] := by
    intro kc2 hk2 n
    induction n with
    | zero =>
      intro x1 x2 x3 S hR
      exact nomatch hR
    | succ n ih =>
      intro x1 x2 x3 S hR H locs ls w hl
      rw [fX0_lengthenRows_l25] at hR
      refine lv_iload_n hx hb dX0_lengthenRows_25 rfl (lv_at hl 3 rfl) ?_
      refine lv_aload_n hx hb dX0_lengthenRows_26 rfl (lv_at hl 0 rfl) ?_
      refine gX0_now X w lfX0_42 dX0_lengthenRows_27 ?_
      refine gX8_ends (Or.inl rfl) X w lfX0_49 dX0_lengthenRows_30 ?_
      refine lv_icmp_ge (tgt := 48) hx hb dX0_lengthenRows_33 (by decide) (fun c1 => ?_) (fun c1 => ?_)
      · rw [if_pos c1] at hR
        obtain ⟨v2, ev2, hR⟩ := lt_e hR
        refine lv_iinc (v := v2) (lv' := [(2, .int v2), (0, .ref (ad 29)), (1, .int x1), (3, .int x3)]) hx hb dX0_lengthenRows_48 hl (k := 2) rfl (by rw [ev2]; rfl) (by decide) rfl (fun ls hl => ?_)
        refine lv_goto (tgt := 2) hx hb dX0_lengthenRows_51 (by decide) ?_
        exact hk2 x1 v2 S hR _ _ _ w (lv_sub hl [1, 2, 0] rfl)
      · rw [if_neg c1] at hR
        refine lv_aload_n hx hb dX0_lengthenRows_36 rfl (lv_at hl 0 rfl) ?_
        refine lv_iload_n hx hb dX0_lengthenRows_37 rfl (lv_at hl 2 rfl) ?_
        refine lv_iload_n hx hb dX0_lengthenRows_38 rfl (lv_at hl 3 rfl) ?_
        obtain ⟨S4, h3, hR⟩ := bd_e hR
        refine cVv (k := 29) (As := [.int x2, .int x3]) (rest := []) X hl.1 w okX0_lengthenRow obX0 rfl lmX0_132 (kX0_lengthenRow h3) ⟨Nat.le_of_ble_eq_true rfl, Nat.le_of_ble_eq_true rfl⟩ ⟨rfl, rfl⟩ ⟨Nat.zero_le _, Nat.zero_le _⟩ rfl rfl (Nat.le_of_ble_eq_true rfl) dX0_lengthenRows_39 (fun H locs w => ?_)
        obtain ⟨v5, ev5, hR⟩ := lt_e hR
        refine lv_iinc (v := v5) (lv' := [(3, .int v5), (0, .ref (ad 29)), (1, .int x1), (2, .int x2)]) hx hb dX0_lengthenRows_42 hl (k := 3) rfl (by rw [ev5]; rfl) (by decide) rfl (fun ls hl => ?_)
        refine lv_goto (tgt := 25) hx hb dX0_lengthenRows_45 (by decide) ?_
        exact ih x1 x2 v5 S4 hR _ _ _ w (lv_sub hl [1, 2, 3, 0] rfl)
  have L2 : ∀ (n : Nat), ∀ (x1 : Int32) (x2 : Int32) (S : SS), fX0_lengthenRows_l2 N n x1 x2 S = some S' → WAT p l ev ({ frames := 1, cells := 0, slots := 0, locals := 27 } : Room) s m args below meth c QQ 4 D dA ad t1 t2 S T o 2 [(0, .ref (ad 29)), (1, .int x1), (2, .int x2)] [] := by
    intro n
    induction n with
    | zero =>
      intro x1 x2 S hR
      exact nomatch hR
    | succ n ih =>
      intro x1 x2 S hR H locs ls w hl
      rw [fX0_lengthenRows_l2] at hR
      refine lv_iload_n hx hb dX0_lengthenRows_2 rfl (lv_at hl 2 rfl) ?_
      refine lv_iconst (v := 1) hx hb dX0_lengthenRows_3 (by decide) ?_
      refine lv_aload_n hx hb dX0_lengthenRows_4 rfl (lv_at hl 0 rfl) ?_
      refine gX0_now X w lfX0_42 dX0_lengthenRows_5 ?_
      refine gX8_ends (Or.inl rfl) X w lfX0_49 dX0_lengthenRows_8 ?_
      refine lv_ishl hx hb dX0_lengthenRows_11 ?_
      refine lv_icmp_ge (tgt := 54) hx hb dX0_lengthenRows_12 (by decide) (fun c1 => ?_) (fun c1 => ?_)
      · rw [if_pos c1] at hR
        rw [hQ]
        exact rt_v X hr hlk w hsz (lf1 hR) rfl dX0_lengthenRows_54
      · rw [if_neg c1] at hR
        refine lv_iload_n hx hb dX0_lengthenRows_15 rfl (lv_at hl 2 rfl) ?_
        obtain ⟨r3, h2, hR⟩ := bd_e hR
        refine cSi (As := [.int x2]) (rest := []) X hl.1 w okJ6_bitCount_0f7a4 lmX0_127 (kJ6_bitCount_0f7a4 h2) ⟨Nat.le_of_ble_eq_true rfl, Nat.le_of_ble_eq_true rfl⟩ ⟨rfl, rfl⟩ ⟨Nat.zero_le _, Nat.zero_le _⟩ rfl rfl (Nat.le_of_ble_eq_true rfl) dX0_lengthenRows_16 (fun H locs zr3 w => ?_)
        refine lv_iload_n hx hb dX0_lengthenRows_19 rfl (lv_at hl 1 rfl) ?_
        refine lv_icmp_ne (tgt := 48) hx hb dX0_lengthenRows_20 (by decide) (fun c4 => ?_) (fun c4 => ?_)
        · rw [if_neg c4] at hR
          obtain ⟨v5, ev5, hR⟩ := lt_e hR
          refine lv_iinc (v := v5) (lv' := [(2, .int v5), (0, .ref (ad 29)), (1, .int x1)]) hx hb dX0_lengthenRows_48 hl (k := 2) rfl (by rw [ev5]; rfl) (by decide) rfl (fun ls hl => ?_)
          refine lv_goto (tgt := 2) hx hb dX0_lengthenRows_51 (by decide) ?_
          exact ih x1 v5 S hR _ _ _ w (lv_sub hl [1, 2, 0] rfl)
        · rw [if_pos c4] at hR
          refine lv_iconst (v := 0) hx hb dX0_lengthenRows_23 (by decide) ?_
          refine lv_istore_n (lv' := [(3, .int 0), (0, .ref (ad 29)), (1, .int x1), (2, .int x2)]) hx hb dX0_lengthenRows_24 rfl hl (by decide) rfl (fun ls hl => ?_)
          exact L25 _ ih N x1 x2 0 S hR _ _ _ w (lv_sub hl [1, 2, 3, 0] rfl)
  have hl : lv_has ls 4 [(0, .ref (ad 29)), (1, .int p1)] := hl
  unfold fX0_lengthenRows at hR
  refine lv_iconst (v := 1) hx hb dX0_lengthenRows_0 (by decide) ?_
  refine lv_istore_n (lv' := [(2, .int 1), (0, .ref (ad 29)), (1, .int p1)]) hx hb dX0_lengthenRows_1 rfl hl (by decide) rfl (fun ls hl => ?_)
  exact L2 N p1 1 S hR _ _ _ w (lv_sub hl [1, 2, 0] rfl)
/- LooseEnds$Advice.leastRowOf(I)I -/
def fX0_leastRowOf_l4 (N : Nat) : Nat → Int32 → Int32 → Int32 → SS → Option (Int32)
  | 0, _, _, _, _ => none
  | n + 1, x1, x2, x3, S => if (gi S 18 4) ≤ x3 then
  (some x2)
  else
  (ck (inb ((x1 * 7) + x3) 896) <|
  lt (ga S 37 ((x1 * 7) + x3)) fun v3 =>
  if v3 = (-1) then
  (lt (x3 + 1) fun v5 =>
  fX0_leastRowOf_l4 N n x1 x2 v5 S)
  else
  (if x2 = (-1) then
  (lt (x3 + 1) fun v7 =>
  fX0_leastRowOf_l4 N n x1 v3 v7 S)
  else
  (if x2 ≤ v3 then
  (lt (x3 + 1) fun v9 =>
  fX0_leastRowOf_l4 N n x1 x2 v9 S)
  else
  (lt (x3 + 1) fun v10 =>
  fX0_leastRowOf_l4 N n x1 v3 v10 S))))
def fX0_leastRowOf (N : Nat) (S : SS) (p1 : Int32) : Option (Int32) := lt ((-1)) fun v1 =>
  fX0_leastRowOf_l4 N N p1 v1 0 S
set_option maxHeartbeats 4000000 in
set_option maxRecDepth 100000 in
theorem kX0_leastRowOf {l : Launch} {D : va_G} {dA : Nat → ClassId} {ad : Nat → Nat} {t1 t2 : Nat} {N : Nat} {S T : SS} {o : Nat → Int64} {p1 : Int32} {r : Int32} (hR : fX0_leastRowOf N S p1 = some r) : KI l D dA ad t1 t2 yX0_leastRowOf cX0_leastRowOf 5 .int { frames := 0, cells := 0, slots := 0, locals := 0 } [.ref (ad 29), .int p1] S T o r S T := by
  intro sz
  refine en_ (plainFor_of_name (by decide)) (Nat.le_of_ble_eq_true rfl) ?_
  intro p ev s m args below meth c QQ hQ hsz X hr hlk w ls hl
  have hx := X.1
  have hb := X.2.1
  have L4 : ∀ (n : Nat), ∀ (x1 : Int32) (x2 : Int32) (x3 : Int32), fX0_leastRowOf_l4 N n x1 x2 x3 S = some r → WAT p l ev ({ frames := 0, cells := 0, slots := 0, locals := 0 } : Room) s m args below meth c QQ 5 D dA ad t1 t2 S T o 4 [(0, .ref (ad 29)), (1, .int x1), (2, .int x2), (3, .int x3)] [] := by
    intro n
    induction n with
    | zero =>
      intro x1 x2 x3 hR
      exact nomatch hR
    | succ n ih =>
      intro x1 x2 x3 hR H locs ls w hl
      rw [fX0_leastRowOf_l4] at hR
      refine lv_iload_n hx hb dX0_leastRowOf_4 rfl (lv_at hl 3 rfl) ?_
      refine lv_aload_n hx hb dX0_leastRowOf_5 rfl (lv_at hl 0 rfl) ?_
      refine gX0_now X w lfX0_42 dX0_leastRowOf_6 ?_
      refine gX8_ends (Or.inl rfl) X w lfX0_49 dX0_leastRowOf_9 ?_
      refine lv_icmp_ge (tgt := 54) hx hb dX0_leastRowOf_12 (by decide) (fun c1 => ?_) (fun c1 => ?_)
      · rw [if_pos c1] at hR
        refine lv_iload_n hx hb dX0_leastRowOf_54 rfl (lv_at hl 2 rfl) ?_
        rw [hQ]
        exact rt_i X hr hlk w hsz rfl rfl rfl (lf1 hR) dX0_leastRowOf_55
      · rw [if_neg c1] at hR
        refine lv_aload_n hx hb dX0_leastRowOf_15 rfl (lv_at hl 0 rfl) ?_
        refine gX0_rows X w lfX0_25 dX0_leastRowOf_16 ?_
        refine lv_iload_n hx hb dX0_leastRowOf_19 rfl (lv_at hl 1 rfl) ?_
        refine lv_bipush (v := 7) hx hb dX0_leastRowOf_20 (by decide) ?_
        refine lv_imul hx hb dX0_leastRowOf_22 ?_
        refine lv_iload_n hx hb dX0_leastRowOf_23 rfl (lv_at hl 3 rfl) ?_
        refine lv_iadd hx hb dX0_leastRowOf_24 ?_
        obtain ⟨g2, hR⟩ := ck_e hR
        refine ialS (n := 896) rfl (by decide) X w rfl g2 dX0_leastRowOf_25 ?_
        obtain ⟨v3, ev3, hR⟩ := lt_e hR
        refine nm_i ev3 ?_
        refine lv_istore (lv' := [(4, .int v3), (0, .ref (ad 29)), (1, .int x1), (2, .int x2), (3, .int x3)]) hx hb dX0_leastRowOf_26 hl (by decide) rfl (fun ls hl => ?_)
        refine lv_iload hx hb dX0_leastRowOf_28 (lv_at hl 0 rfl) ?_
        refine lv_iconst (v := -1) hx hb dX0_leastRowOf_30 (by decide) ?_
        refine lv_icmp_eq (tgt := 48) hx hb dX0_leastRowOf_31 (by decide) (fun c4 => ?_) (fun c4 => ?_)
        · rw [if_pos c4] at hR
          obtain ⟨v5, ev5, hR⟩ := lt_e hR
          refine lv_iinc (v := v5) (lv' := [(3, .int v5), (4, .int v3), (0, .ref (ad 29)), (1, .int x1), (2, .int x2)]) hx hb dX0_leastRowOf_48 hl (k := 4) rfl (by rw [ev5]; rfl) (by decide) rfl (fun ls hl => ?_)
          refine lv_goto (tgt := 4) hx hb dX0_leastRowOf_51 (by decide) ?_
          exact ih x1 x2 v5 hR _ _ _ w (lv_sub hl [2, 3, 4, 0] rfl)
        · rw [if_neg c4] at hR
          refine lv_iload_n hx hb dX0_leastRowOf_34 rfl (lv_at hl 3 rfl) ?_
          refine lv_iconst (v := -1) hx hb dX0_leastRowOf_35 (by decide) ?_
          refine lv_icmp_eq (tgt := 45) hx hb dX0_leastRowOf_36 (by decide) (fun c6 => ?_) (fun c6 => ?_)
          · rw [if_pos c6] at hR
            refine lv_iload hx hb dX0_leastRowOf_45 (lv_at hl 0 rfl) ?_
            refine lv_istore_n (lv' := [(2, .int v3), (4, .int v3), (0, .ref (ad 29)), (1, .int x1), (3, .int x3)]) hx hb dX0_leastRowOf_47 rfl hl (by decide) rfl (fun ls hl => ?_)
            obtain ⟨v7, ev7, hR⟩ := lt_e hR
            refine lv_iinc (v := v7) (lv' := [(3, .int v7), (2, .int v3), (4, .int v3), (0, .ref (ad 29)), (1, .int x1)]) hx hb dX0_leastRowOf_48 hl (k := 4) rfl (by rw [ev7]; rfl) (by decide) rfl (fun ls hl => ?_)
            refine lv_goto (tgt := 4) hx hb dX0_leastRowOf_51 (by decide) ?_
            exact ih x1 v3 v7 hR _ _ _ w (lv_sub hl [3, 4, 1, 0] rfl)
          · rw [if_neg c6] at hR
            refine lv_iload hx hb dX0_leastRowOf_39 (lv_at hl 0 rfl) ?_
            refine lv_iload_n hx hb dX0_leastRowOf_41 rfl (lv_at hl 3 rfl) ?_
            refine lv_icmp_ge (tgt := 48) hx hb dX0_leastRowOf_42 (by decide) (fun c8 => ?_) (fun c8 => ?_)
            · rw [if_pos c8] at hR
              obtain ⟨v9, ev9, hR⟩ := lt_e hR
              refine lv_iinc (v := v9) (lv' := [(3, .int v9), (4, .int v3), (0, .ref (ad 29)), (1, .int x1), (2, .int x2)]) hx hb dX0_leastRowOf_48 hl (k := 4) rfl (by rw [ev9]; rfl) (by decide) rfl (fun ls hl => ?_)
              refine lv_goto (tgt := 4) hx hb dX0_leastRowOf_51 (by decide) ?_
              exact ih x1 x2 v9 hR _ _ _ w (lv_sub hl [2, 3, 4, 0] rfl)
            · rw [if_neg c8] at hR
              refine lv_iload hx hb dX0_leastRowOf_45 (lv_at hl 0 rfl) ?_
              refine lv_istore_n (lv' := [(2, .int v3), (4, .int v3), (0, .ref (ad 29)), (1, .int x1), (3, .int x3)]) hx hb dX0_leastRowOf_47 rfl hl (by decide) rfl (fun ls hl => ?_)
              obtain ⟨v10, ev10, hR⟩ := lt_e hR
              refine lv_iinc (v := v10) (lv' := [(3, .int v10), (2, .int v3), (4, .int v3), (0, .ref (ad 29)), (1, .int x1)]) hx hb dX0_leastRowOf_48 hl (k := 4) rfl (by rw [ev10]; rfl) (by decide) rfl (fun ls hl => ?_)
              refine lv_goto (tgt := 4) hx hb dX0_leastRowOf_51 (by decide) ?_
              exact ih x1 v3 v10 hR _ _ _ w (lv_sub hl [3, 4, 1, 0] rfl)
  have hl : lv_has ls 5 [(0, .ref (ad 29)), (1, .int p1)] := hl
  unfold fX0_leastRowOf at hR
  refine lv_iconst (v := -1) hx hb dX0_leastRowOf_0 (by decide) ?_
  obtain ⟨v1, ev1, hR⟩ := lt_e hR
  refine nm_i ev1 ?_
  refine lv_istore_n (lv' := [(2, .int v1), (0, .ref (ad 29)), (1, .int p1)]) hx hb dX0_leastRowOf_1 rfl hl (by decide) rfl (fun ls hl => ?_)
  refine lv_iconst (v := 0) hx hb dX0_leastRowOf_2 (by decide) ?_
  refine lv_istore_n (lv' := [(3, .int 0), (2, .int v1), (0, .ref (ad 29)), (1, .int p1)]) hx hb dX0_leastRowOf_3 rfl hl (by decide) rfl (fun ls hl => ?_)
  exact L4 N p1 v1 0 hR _ _ _ w (lv_sub hl [2, 3, 1, 0] rfl)
/- LooseEnds$State.lengthOf(I)I -/
def fX8_lengthOf_l4 (N : Nat) (k0 : Nat) : Nat → Int32 → Int32 → Int32 → SS → Option (Int32)
  | 0, _, _, _, _ => none
  | n + 1, x1, x2, x3, S => if (gi S k0 4) ≤ x3 then
  (some x2)
  else
  (if ((sr x1 x3) &&& 1) = 1 then
  (ck (inb x3 7) <|
  lt (x2 + (ga S (k0 + 2) x3)) fun v5 =>
  lt (x3 + 1) fun v6 =>
  fX8_lengthOf_l4 N k0 n x1 v5 v6 S)
  else
  (lt (x3 + 1) fun v3 =>
  fX8_lengthOf_l4 N k0 n x1 x2 v3 S))
def fX8_lengthOf (N : Nat) (S : SS) (k0 : Nat) (p1 : Int32) : Option (Int32) := fX8_lengthOf_l4 N k0 N p1 0 0 S
set_option maxHeartbeats 4000000 in
set_option maxRecDepth 100000 in
theorem kX8_lengthOf {l : Launch} {D : va_G} {dA : Nat → ClassId} {ad : Nat → Nat} {t1 t2 : Nat} {N : Nat} {k0 : Nat} (hk0 : k0 = 18 ∨ k0 = 30) {S T : SS} {o : Nat → Int64} {p1 : Int32} {r : Int32} (hR : fX8_lengthOf N S k0 p1 = some r) : KI l D dA ad t1 t2 yX8_lengthOf cX8_lengthOf 4 .int { frames := 0, cells := 0, slots := 0, locals := 0 } [.ref (ad k0), .int p1] S T o r S T := by
  intro sz
  refine en_ (plainFor_of_name (by decide)) (Nat.le_of_ble_eq_true rfl) ?_
  intro p ev s m args below meth c QQ hQ hsz X hr hlk w ls hl
  have hx := X.1
  have hb := X.2.1
  have L4 : ∀ (n : Nat), ∀ (x1 : Int32) (x2 : Int32) (x3 : Int32), fX8_lengthOf_l4 N k0 n x1 x2 x3 S = some r → WAT p l ev ({ frames := 0, cells := 0, slots := 0, locals := 0 } : Room) s m args below meth c QQ 4 D dA ad t1 t2 S T o 4 [(0, .ref (ad k0)), (1, .int x1), (2, .int x2), (3, .int x3)] [] := by
    intro n
    induction n with
    | zero =>
      intro x1 x2 x3 hR
      exact nomatch hR
    | succ n ih =>
      intro x1 x2 x3 hR H locs ls w hl
      rw [fX8_lengthOf_l4] at hR
      refine lv_iload_n hx hb dX8_lengthOf_4 rfl (lv_at hl 3 rfl) ?_
      refine lv_aload_n hx hb dX8_lengthOf_5 rfl (lv_at hl 0 rfl) ?_
      refine gX8_ends hk0 X w lfX8_51 dX8_lengthOf_6 ?_
      refine lv_icmp_ge (tgt := 36) hx hb dX8_lengthOf_9 (by decide) (fun c1 => ?_) (fun c1 => ?_)
      · rw [if_pos c1] at hR
        refine lv_iload_n hx hb dX8_lengthOf_36 rfl (lv_at hl 2 rfl) ?_
        rw [hQ]
        exact rt_i X hr hlk w hsz rfl rfl rfl (lf1 hR) dX8_lengthOf_37
      · rw [if_neg c1] at hR
        refine lv_iload_n hx hb dX8_lengthOf_12 rfl (lv_at hl 1 rfl) ?_
        refine lv_iload_n hx hb dX8_lengthOf_13 rfl (lv_at hl 3 rfl) ?_
        refine lv_ishr hx hb dX8_lengthOf_14 ?_
        refine lv_iconst (v := 1) hx hb dX8_lengthOf_15 (by decide) ?_
        refine lv_iand hx hb dX8_lengthOf_16 ?_
        refine lv_iconst (v := 1) hx hb dX8_lengthOf_17 (by decide) ?_
        refine lv_icmp_ne (tgt := 30) hx hb dX8_lengthOf_18 (by decide) (fun c2 => ?_) (fun c2 => ?_)
        · rw [if_neg c2] at hR
          obtain ⟨v3, ev3, hR⟩ := lt_e hR
          refine lv_iinc (v := v3) (lv' := [(3, .int v3), (0, .ref (ad k0)), (1, .int x1), (2, .int x2)]) hx hb dX8_lengthOf_30 hl (k := 3) rfl (by rw [ev3]; rfl) (by decide) rfl (fun ls hl => ?_)
          refine lv_goto (tgt := 4) hx hb dX8_lengthOf_33 (by decide) ?_
          exact ih x1 x2 v3 hR _ _ _ w (lv_sub hl [1, 2, 3, 0] rfl)
        · rw [if_pos c2] at hR
          refine lv_iload_n hx hb dX8_lengthOf_21 rfl (lv_at hl 2 rfl) ?_
          refine lv_aload_n hx hb dX8_lengthOf_22 rfl (lv_at hl 0 rfl) ?_
          refine gX8_lengths hk0 X w lfX8_15 dX8_lengthOf_23 ?_
          refine lv_iload_n hx hb dX8_lengthOf_26 rfl (lv_at hl 3 rfl) ?_
          obtain ⟨g4, hR⟩ := ck_e hR
          refine ialS (n := 7) (ikX8_2 hk0) (lkX8_2 hk0) X w (nkX8_2 hk0) g4 dX8_lengthOf_27 ?_
          refine lv_iadd hx hb dX8_lengthOf_28 ?_
          obtain ⟨v5, ev5, hR⟩ := lt_e hR
          refine nm_i ev5 ?_
          refine lv_istore_n (lv' := [(2, .int v5), (0, .ref (ad k0)), (1, .int x1), (3, .int x3)]) hx hb dX8_lengthOf_29 rfl hl (by decide) rfl (fun ls hl => ?_)
          obtain ⟨v6, ev6, hR⟩ := lt_e hR
          refine lv_iinc (v := v6) (lv' := [(3, .int v6), (2, .int v5), (0, .ref (ad k0)), (1, .int x1)]) hx hb dX8_lengthOf_30 hl (k := 3) rfl (by rw [ev6]; rfl) (by decide) rfl (fun ls hl => ?_)
          refine lv_goto (tgt := 4) hx hb dX8_lengthOf_33 (by decide) ?_
          exact ih x1 v5 v6 hR _ _ _ w (lv_sub hl [2, 3, 1, 0] rfl)
  have hl : lv_has ls 4 [(0, .ref (ad k0)), (1, .int p1)] := hl
  unfold fX8_lengthOf at hR
  refine lv_iconst (v := 0) hx hb dX8_lengthOf_0 (by decide) ?_
  refine lv_istore_n (lv' := [(2, .int 0), (0, .ref (ad k0)), (1, .int p1)]) hx hb dX8_lengthOf_1 rfl hl (by decide) rfl (fun ls hl => ?_)
  refine lv_iconst (v := 0) hx hb dX8_lengthOf_2 (by decide) ?_
  refine lv_istore_n (lv' := [(3, .int 0), (2, .int 0), (0, .ref (ad k0)), (1, .int p1)]) hx hb dX8_lengthOf_3 rfl hl (by decide) rfl (fun ls hl => ?_)
  exact L4 N p1 0 0 hR _ _ _ w (lv_sub hl [2, 3, 1, 0] rfl)
/- LooseEnds$Advice.isBetter(III)Z -/
def fX0_isBetter (N : Nat) (S : SS) (p1 : Int32) (p2 : Int32) (p3 : Int32) : Option (Int32) := bd (fX8_lengthOf N S 18 p1) fun r2 =>
  if r2 = (gi S 29 10) then
  (bd (fJ6_bitCount_0f7a4 N p3) fun r5 =>
  bd (fJ6_bitCount_0f7a4 N p1) fun r7 =>
  lt (r5 - r7) fun v8 =>
  if 0 < v8 then
  (some 1)
  else
  (if v8 = 0 then
  (if (gi S 29 11) ≤ p2 then
  (some 0)
  else
  (some 1))
  else
  (some 0)))
  else
  (if r2 ≤ (gi S 29 10) then
  (some 0)
  else
  (some 1))
set_option maxHeartbeats 4000000 in
set_option maxRecDepth 100000 in
theorem kX0_isBetter {l : Launch} {D : va_G} {dA : Nat → ClassId} {ad : Nat → Nat} {t1 t2 : Nat} {N : Nat} {S T : SS} {o : Nat → Int64} {p1 : Int32} {p2 : Int32} {p3 : Int32} {r : Int32} (hR : fX0_isBetter N S p1 p2 p3 = some r) : KI l D dA ad t1 t2 yX0_isBetter cX0_isBetter 6 .boolean { frames := 1, cells := 0, slots := 0, locals := 23 } [.ref (ad 29), .int p1, .int p2, .int p3] S T o r S T := by
  intro sz
  refine en_ (plainFor_of_name (by decide)) (Nat.le_of_ble_eq_true rfl) ?_
  intro p ev s m args below meth c QQ hQ hsz X hr hlk w ls hl
  have hx := X.1
  have hb := X.2.1
  have hl : lv_has ls 6 [(0, .ref (ad 29)), (1, .int p1), (2, .int p2), (3, .int p3)] := hl
  unfold fX0_isBetter at hR
  refine lv_aload_n hx hb dX0_isBetter_0 rfl (lv_at hl 0 rfl) ?_
  refine gX0_now X w lfX0_42 dX0_isBetter_1 ?_
  refine lv_iload_n hx hb dX0_isBetter_4 rfl (lv_at hl 1 rfl) ?_
  obtain ⟨r2, h1, hR⟩ := bd_e hR
  refine cVi (k := 18) (As := [.int p1]) (rest := []) X hl.1 w okX8_lengthOf (obX8 (Or.inl rfl)) rfl lmX0_124 (kX8_lengthOf (Or.inl rfl) h1) ⟨Nat.le_of_ble_eq_true rfl, Nat.le_of_ble_eq_true rfl⟩ ⟨rfl, rfl⟩ ⟨Nat.zero_le _, Nat.zero_le _⟩ rfl rfl (Nat.le_of_ble_eq_true rfl) dX0_isBetter_5 (fun H locs zr2 w => ?_)
  refine lv_istore (lv' := [(4, .int r2), (0, .ref (ad 29)), (1, .int p1), (2, .int p2), (3, .int p3)]) hx hb dX0_isBetter_8 hl (by decide) rfl (fun ls hl => ?_)
  refine lv_iload hx hb dX0_isBetter_10 (lv_at hl 0 rfl) ?_
  refine lv_aload_n hx hb dX0_isBetter_12 rfl (lv_at hl 1 rfl) ?_
  refine gX0_best X w lfX0_70 dX0_isBetter_13 ?_
  refine lv_icmp_eq (tgt := 34) hx hb dX0_isBetter_16 (by decide) (fun c3 => ?_) (fun c3 => ?_)
  · rw [if_pos c3] at hR
    refine lv_iload_n hx hb dX0_isBetter_34 rfl (lv_at hl 4 rfl) ?_
    obtain ⟨r5, h4, hR⟩ := bd_e hR
    refine cSi (As := [.int p3]) (rest := []) X hl.1 w okJ6_bitCount_0f7a4 lmX0_127 (kJ6_bitCount_0f7a4 h4) ⟨Nat.le_of_ble_eq_true rfl, Nat.le_of_ble_eq_true rfl⟩ ⟨rfl, rfl⟩ ⟨Nat.zero_le _, Nat.zero_le _⟩ rfl rfl (Nat.le_of_ble_eq_true rfl) dX0_isBetter_35 (fun H locs zr5 w => ?_)
    refine lv_iload_n hx hb dX0_isBetter_38 rfl (lv_at hl 2 rfl) ?_
    obtain ⟨r7, h6, hR⟩ := bd_e hR
    refine cSi (As := [.int p1]) (rest := [.int r5]) X hl.1 w okJ6_bitCount_0f7a4 lmX0_127 (kJ6_bitCount_0f7a4 h6) ⟨Nat.le_of_ble_eq_true rfl, Nat.le_of_ble_eq_true rfl⟩ ⟨rfl, rfl⟩ ⟨Nat.zero_le _, Nat.zero_le _⟩ rfl rfl (Nat.le_of_ble_eq_true rfl) dX0_isBetter_39 (fun H locs zr7 w => ?_)
    refine lv_isub hx hb dX0_isBetter_42 ?_
    obtain ⟨v8, ev8, hR⟩ := lt_e hR
    refine nm_i ev8 ?_
    refine lv_istore (lv' := [(5, .int v8), (4, .int r2), (0, .ref (ad 29)), (1, .int p1), (2, .int p2), (3, .int p3)]) hx hb dX0_isBetter_43 hl (by decide) rfl (fun ls hl => ?_)
    refine lv_iload hx hb dX0_isBetter_45 (lv_at hl 0 rfl) ?_
    refine lv_if_gt (tgt := 63) hx hb dX0_isBetter_47 (by decide) (fun c9 => ?_) (fun c9 => ?_)
    · rw [if_pos c9] at hR
      refine lv_iconst (v := 1) hx hb dX0_isBetter_63 (by decide) ?_
      refine lv_goto (tgt := 68) hx hb dX0_isBetter_64 (by decide) ?_
      rw [hQ]
      exact rt_i X hr hlk w hsz rfl rfl rfl (lf1 hR) dX0_isBetter_68
    · rw [if_neg c9] at hR
      refine lv_iload hx hb dX0_isBetter_50 (lv_at hl 0 rfl) ?_
      refine lv_if_ne (tgt := 67) hx hb dX0_isBetter_52 (by decide) (fun c10 => ?_) (fun c10 => ?_)
      · rw [if_neg c10] at hR
        refine lv_iconst (v := 0) hx hb dX0_isBetter_67 (by decide) ?_
        rw [hQ]
        exact rt_i X hr hlk w hsz rfl rfl rfl (lf1 hR) dX0_isBetter_68
      · rw [if_pos c10] at hR
        refine lv_iload_n hx hb dX0_isBetter_55 rfl (lv_at hl 4 rfl) ?_
        refine lv_aload_n hx hb dX0_isBetter_56 rfl (lv_at hl 2 rfl) ?_
        refine gX0_bestRow X w lfX0_91 dX0_isBetter_57 ?_
        refine lv_icmp_ge (tgt := 67) hx hb dX0_isBetter_60 (by decide) (fun c11 => ?_) (fun c11 => ?_)
        · rw [if_pos c11] at hR
          refine lv_iconst (v := 0) hx hb dX0_isBetter_67 (by decide) ?_
          rw [hQ]
          exact rt_i X hr hlk w hsz rfl rfl rfl (lf1 hR) dX0_isBetter_68
        · rw [if_neg c11] at hR
          refine lv_iconst (v := 1) hx hb dX0_isBetter_63 (by decide) ?_
          refine lv_goto (tgt := 68) hx hb dX0_isBetter_64 (by decide) ?_
          rw [hQ]
          exact rt_i X hr hlk w hsz rfl rfl rfl (lf1 hR) dX0_isBetter_68
  · rw [if_neg c3] at hR
    refine lv_iload hx hb dX0_isBetter_19 (lv_at hl 0 rfl) ?_
    refine lv_aload_n hx hb dX0_isBetter_21 rfl (lv_at hl 1 rfl) ?_
    refine gX0_best X w lfX0_70 dX0_isBetter_22 ?_
    refine lv_icmp_le (tgt := 32) hx hb dX0_isBetter_25 (by decide) (fun c12 => ?_) (fun c12 => ?_)
    · rw [if_pos c12] at hR
      refine lv_iconst (v := 0) hx hb dX0_isBetter_32 (by decide) ?_
      rw [hQ]
      exact rt_i X hr hlk w hsz rfl rfl rfl (lf1 hR) dX0_isBetter_33
    · rw [if_neg c12] at hR
      refine lv_iconst (v := 1) hx hb dX0_isBetter_28 (by decide) ?_
      refine lv_goto (tgt := 33) hx hb dX0_isBetter_29 (by decide) ?_
      rw [hQ]
      exact rt_i X hr hlk w hsz rfl rfl rfl (lf1 hR) dX0_isBetter_33
/- LooseEnds$Advice.findTale()V -/
def fX0_findTale_l102 (N : Nat) : Nat → Int32 → Int32 → SS → Option (SS)
  | 0, _, _, _ => none
  | n + 1, x2, x3, S => if (sl 1 (gi S 18 4)) ≤ x3 then
  (some S)
  else
  (bd (fX0_leastRowOf N S x3) fun r3 =>
  if r3 = (-1) then
  (lt (x3 + 1) fun v5 =>
  fX0_findTale_l102 N n x2 v5 S)
  else
  (bd (fX0_isBetter N S x3 r3 x2) fun r7 =>
  if r7 = 0 then
  (lt (x3 + 1) fun v9 =>
  fX0_findTale_l102 N n x2 v9 S)
  else
  (bd (fX8_lengthOf N S 18 x3) fun r11 =>
  lt (pj S 29 10 r11) fun S12 =>
  lt (pj S12 29 11 r3) fun S13 =>
  lt (x3 + 1) fun v14 =>
  fX0_findTale_l102 N n x3 v14 S13)))
def fX0_findTale_l60 (N : Nat) : Nat → Int32 → Int32 → SS → Option (SS)
  | 0, _, _, _ => none
  | n + 1, x1, x2, S => if (gi S 18 4) ≤ x2 then
  (lt (pj S 29 10 0) fun S2 =>
  lt (pj S2 29 11 (-1)) fun S3 =>
  fX0_findTale_l102 N N 0 1 S3)
  else
  (bd (fX0_findFollowers N S x1 x2) fun S5 =>
  bd (fX0_lengthenRows N S5 x2) fun S7 =>
  lt (x2 + 1) fun v8 =>
  fX0_findTale_l60 N n x1 v8 S7)
def fX0_findTale_l18 (N : Nat) : Nat → Int32 → Int32 → SS → Option (SS)
  | 0, _, _, _ => none
  | n + 1, x1, x2, S => if (gi S 18 4) ≤ x2 then
  (fX0_findTale_l60 N N x1 1 S)
  else
  (if ((sr x1 x2) &&& 1) = 1 then
  (ck (inb (((sl 1 x2) * 7) + x2) 896) <|
  lt (pa S 37 (((sl 1 x2) * 7) + x2) x2) fun S5 =>
  lt (x2 + 1) fun v6 =>
  fX0_findTale_l18 N n x1 v6 S5)
  else
  (lt (x2 + 1) fun v3 =>
  fX0_findTale_l18 N n x1 v3 S))
def fX0_findTale (N : Nat) (S : SS) : Option (SS) := bd (fX8_looseBits N S 18) fun r2 =>
  bd (fJ7_fill_53178 N S 37 (-1)) fun S4 =>
  fX0_findTale_l18 N N r2 0 S4
set_option maxHeartbeats 4000000 in
set_option maxRecDepth 100000 in
theorem kX0_findTale {l : Launch} {D : va_G} {dA : Nat → ClassId} {ad : Nat → Nat} {t1 t2 : Nat} {N : Nat} {S T : SS} {o : Nat → Int64} {S' : SS} (hR : fX0_findTale N S = some S') : KV l D dA ad t1 t2 yX0_findTale cX0_findTale 5 { frames := 5, cells := 0, slots := 0, locals := 126 } [.ref (ad 29)] S T o S' T := by
  intro sz
  refine en_ (plainFor_of_name (by decide)) (Nat.le_of_ble_eq_true rfl) ?_
  intro p ev s m args below meth c QQ hQ hsz X hr hlk w ls hl
  have hx := X.1
  have hb := X.2.1
  have L102 : ∀ (n : Nat), ∀ (x2 : Int32) (x3 : Int32) (S : SS), fX0_findTale_l102 N n x2 x3 S = some S' → WAT p l ev ({ frames := 5, cells := 0, slots := 0, locals := 126 } : Room) s m args below meth c QQ 5 D dA ad t1 t2 S T o 102 [(0, .ref (ad 29)), (2, .int x2), (3, .int x3)] [] := by
    intro n
    induction n with
    | zero =>
      intro x2 x3 S hR
      exact nomatch hR
    | succ n ih =>
      intro x2 x3 S hR H locs ls w hl
      rw [fX0_findTale_l102] at hR
      refine lv_iload_n hx hb dX0_findTale_102 rfl (lv_at hl 2 rfl) ?_
      refine lv_iconst (v := 1) hx hb dX0_findTale_103 (by decide) ?_
      refine lv_aload_n hx hb dX0_findTale_104 rfl (lv_at hl 0 rfl) ?_
      refine gX0_now X w lfX0_42 dX0_findTale_105 ?_
      refine gX8_ends (Or.inl rfl) X w lfX0_49 dX0_findTale_108 ?_
      refine lv_ishl hx hb dX0_findTale_111 ?_
      refine lv_icmp_ge (tgt := 165) hx hb dX0_findTale_112 (by decide) (fun c1 => ?_) (fun c1 => ?_)
      · rw [if_pos c1] at hR
        rw [hQ]
        exact rt_v X hr hlk w hsz (lf1 hR) rfl dX0_findTale_165
      · rw [if_neg c1] at hR
        refine lv_aload_n hx hb dX0_findTale_115 rfl (lv_at hl 0 rfl) ?_
        refine lv_iload_n hx hb dX0_findTale_116 rfl (lv_at hl 2 rfl) ?_
        obtain ⟨r3, h2, hR⟩ := bd_e hR
        refine cVi (k := 29) (As := [.int x3]) (rest := []) X hl.1 w okX0_leastRowOf obX0 rfl lmX0_117 (kX0_leastRowOf h2) ⟨Nat.le_of_ble_eq_true rfl, Nat.le_of_ble_eq_true rfl⟩ ⟨rfl, rfl⟩ ⟨Nat.zero_le _, Nat.zero_le _⟩ rfl rfl (Nat.le_of_ble_eq_true rfl) dX0_findTale_117 (fun H locs zr3 w => ?_)
        refine lv_istore (lv' := [(4, .int r3), (0, .ref (ad 29)), (2, .int x2), (3, .int x3)]) hx hb dX0_findTale_120 hl (by decide) rfl (fun ls hl => ?_)
        refine lv_iload hx hb dX0_findTale_122 (lv_at hl 0 rfl) ?_
        refine lv_iconst (v := -1) hx hb dX0_findTale_124 (by decide) ?_
        refine lv_icmp_eq (tgt := 159) hx hb dX0_findTale_125 (by decide) (fun c4 => ?_) (fun c4 => ?_)
        · rw [if_pos c4] at hR
          obtain ⟨v5, ev5, hR⟩ := lt_e hR
          refine lv_iinc (v := v5) (lv' := [(3, .int v5), (4, .int r3), (0, .ref (ad 29)), (2, .int x2)]) hx hb dX0_findTale_159 hl (k := 3) rfl (by rw [ev5]; rfl) (by decide) rfl (fun ls hl => ?_)
          refine lv_goto (tgt := 102) hx hb dX0_findTale_162 (by decide) ?_
          exact ih x2 v5 S hR _ _ _ w (lv_sub hl [2, 3, 0] rfl)
        · rw [if_neg c4] at hR
          refine lv_aload_n hx hb dX0_findTale_128 rfl (lv_at hl 1 rfl) ?_
          refine lv_iload_n hx hb dX0_findTale_129 rfl (lv_at hl 3 rfl) ?_
          refine lv_iload hx hb dX0_findTale_130 (lv_at hl 0 rfl) ?_
          refine lv_iload_n hx hb dX0_findTale_132 rfl (lv_at hl 2 rfl) ?_
          obtain ⟨r7, h6, hR⟩ := bd_e hR
          refine cVi (k := 29) (As := [.int x3, .int r3, .int x2]) (rest := []) X hl.1 w okX0_isBetter obX0 rfl lmX0_120 (kX0_isBetter h6) ⟨Nat.le_of_ble_eq_true rfl, Nat.le_of_ble_eq_true rfl⟩ ⟨rfl, rfl⟩ ⟨Nat.zero_le _, Nat.zero_le _⟩ rfl rfl (Nat.le_of_ble_eq_true rfl) dX0_findTale_133 (fun H locs zr7 w => ?_)
          refine lv_if_eq (tgt := 159) hx hb dX0_findTale_136 (by decide) (fun c8 => ?_) (fun c8 => ?_)
          · rw [if_pos c8] at hR
            obtain ⟨v9, ev9, hR⟩ := lt_e hR
            refine lv_iinc (v := v9) (lv' := [(3, .int v9), (4, .int r3), (0, .ref (ad 29)), (2, .int x2)]) hx hb dX0_findTale_159 hl (k := 3) rfl (by rw [ev9]; rfl) (by decide) rfl (fun ls hl => ?_)
            refine lv_goto (tgt := 102) hx hb dX0_findTale_162 (by decide) ?_
            exact ih x2 v9 S hR _ _ _ w (lv_sub hl [2, 3, 0] rfl)
          · rw [if_neg c8] at hR
            refine lv_iload_n hx hb dX0_findTale_139 rfl (lv_at hl 3 rfl) ?_
            refine lv_istore_n (lv' := [(2, .int x3), (4, .int r3), (0, .ref (ad 29)), (3, .int x3)]) hx hb dX0_findTale_140 rfl hl (by decide) rfl (fun ls hl => ?_)
            refine lv_aload_n hx hb dX0_findTale_141 rfl (lv_at hl 2 rfl) ?_
            refine lv_aload_n hx hb dX0_findTale_142 rfl (lv_at hl 2 rfl) ?_
            refine gX0_now X w lfX0_42 dX0_findTale_143 ?_
            refine lv_iload_n hx hb dX0_findTale_146 rfl (lv_at hl 3 rfl) ?_
            obtain ⟨r11, h10, hR⟩ := bd_e hR
            refine cVi (k := 18) (As := [.int x3]) (rest := [.ref (ad 29)]) X hl.1 w okX8_lengthOf (obX8 (Or.inl rfl)) rfl lmX0_124 (kX8_lengthOf (Or.inl rfl) h10) ⟨Nat.le_of_ble_eq_true rfl, Nat.le_of_ble_eq_true rfl⟩ ⟨rfl, rfl⟩ ⟨Nat.zero_le _, Nat.zero_le _⟩ rfl rfl (Nat.le_of_ble_eq_true rfl) dX0_findTale_147 (fun H locs zr11 w => ?_)
            obtain ⟨S12, eS12, hR⟩ := lt_e hR
            refine pX0_best X w lfX0_70 dX0_findTale_150 (fun H locs w => ?_)
            rw [← eS12] at w
            refine lv_aload_n hx hb dX0_findTale_153 rfl (lv_at hl 2 rfl) ?_
            refine lv_iload hx hb dX0_findTale_154 (lv_at hl 1 rfl) ?_
            obtain ⟨S13, eS13, hR⟩ := lt_e hR
            refine pX0_bestRow X w lfX0_91 dX0_findTale_156 (fun H locs w => ?_)
            rw [← eS13] at w
            obtain ⟨v14, ev14, hR⟩ := lt_e hR
            refine lv_iinc (v := v14) (lv' := [(3, .int v14), (2, .int x3), (4, .int r3), (0, .ref (ad 29))]) hx hb dX0_findTale_159 hl (k := 3) rfl (by rw [ev14]; rfl) (by decide) rfl (fun ls hl => ?_)
            refine lv_goto (tgt := 102) hx hb dX0_findTale_162 (by decide) ?_
            exact ih x3 v14 S13 hR _ _ _ w (lv_sub hl [3, 1, 0] rfl)
  have L60 : ∀ (n : Nat), ∀ (x1 : Int32) (x2 : Int32) (S : SS), fX0_findTale_l60 N n x1 x2 S = some S' → WAT p l ev ({ frames := 5, cells := 0, slots := 0, locals := 126 } : Room) s m args below meth c QQ 5 D dA ad t1 t2 S T o 60 [(0, .ref (ad 29)), (1, .int x1), (2, .int x2)] [] := by
    intro n
    induction n with
    | zero =>
      intro x1 x2 S hR
      exact nomatch hR
    | succ n ih =>
      intro x1 x2 S hR H locs ls w hl
      rw [fX0_findTale_l60] at hR
      refine lv_iload_n hx hb dX0_findTale_60 rfl (lv_at hl 2 rfl) ?_
      refine lv_aload_n hx hb dX0_findTale_61 rfl (lv_at hl 0 rfl) ?_
      refine gX0_now X w lfX0_42 dX0_findTale_62 ?_
      refine gX8_ends (Or.inl rfl) X w lfX0_49 dX0_findTale_65 ?_
      refine lv_icmp_ge (tgt := 88) hx hb dX0_findTale_68 (by decide) (fun c1 => ?_) (fun c1 => ?_)
      · rw [if_pos c1] at hR
        refine lv_aload_n hx hb dX0_findTale_88 rfl (lv_at hl 0 rfl) ?_
        refine lv_iconst (v := 0) hx hb dX0_findTale_89 (by decide) ?_
        obtain ⟨S2, eS2, hR⟩ := lt_e hR
        refine pX0_best X w lfX0_70 dX0_findTale_90 (fun H locs w => ?_)
        rw [← eS2] at w
        refine lv_aload_n hx hb dX0_findTale_93 rfl (lv_at hl 0 rfl) ?_
        refine lv_iconst (v := -1) hx hb dX0_findTale_94 (by decide) ?_
        obtain ⟨S3, eS3, hR⟩ := lt_e hR
        refine pX0_bestRow X w lfX0_91 dX0_findTale_95 (fun H locs w => ?_)
        rw [← eS3] at w
        refine lv_iconst (v := 0) hx hb dX0_findTale_98 (by decide) ?_
        refine lv_istore_n (lv' := [(2, .int 0), (0, .ref (ad 29)), (1, .int x1)]) hx hb dX0_findTale_99 rfl hl (by decide) rfl (fun ls hl => ?_)
        refine lv_iconst (v := 1) hx hb dX0_findTale_100 (by decide) ?_
        refine lv_istore_n (lv' := [(3, .int 1), (2, .int 0), (0, .ref (ad 29)), (1, .int x1)]) hx hb dX0_findTale_101 rfl hl (by decide) rfl (fun ls hl => ?_)
        exact L102 N 0 1 S3 hR _ _ _ w (lv_sub hl [2, 1, 0] rfl)
      · rw [if_neg c1] at hR
        refine lv_aload_n hx hb dX0_findTale_71 rfl (lv_at hl 0 rfl) ?_
        refine lv_iload_n hx hb dX0_findTale_72 rfl (lv_at hl 1 rfl) ?_
        refine lv_iload_n hx hb dX0_findTale_73 rfl (lv_at hl 2 rfl) ?_
        obtain ⟨S5, h4, hR⟩ := bd_e hR
        refine cVv (k := 29) (As := [.int x1, .int x2]) (rest := []) X hl.1 w okX0_findFollowers obX0 rfl lmX0_110 (kX0_findFollowers h4) ⟨Nat.le_of_ble_eq_true rfl, Nat.le_of_ble_eq_true rfl⟩ ⟨rfl, rfl⟩ ⟨Nat.zero_le _, Nat.zero_le _⟩ rfl rfl (Nat.le_of_ble_eq_true rfl) dX0_findTale_74 (fun H locs w => ?_)
        refine lv_aload_n hx hb dX0_findTale_77 rfl (lv_at hl 0 rfl) ?_
        refine lv_iload_n hx hb dX0_findTale_78 rfl (lv_at hl 2 rfl) ?_
        obtain ⟨S7, h6, hR⟩ := bd_e hR
        refine cVv (k := 29) (As := [.int x2]) (rest := []) X hl.1 w okX0_lengthenRows obX0 rfl lmX0_113 (kX0_lengthenRows h6) ⟨Nat.le_of_ble_eq_true rfl, Nat.le_of_ble_eq_true rfl⟩ ⟨rfl, rfl⟩ ⟨Nat.zero_le _, Nat.zero_le _⟩ rfl rfl (Nat.le_of_ble_eq_true rfl) dX0_findTale_79 (fun H locs w => ?_)
        obtain ⟨v8, ev8, hR⟩ := lt_e hR
        refine lv_iinc (v := v8) (lv' := [(2, .int v8), (0, .ref (ad 29)), (1, .int x1)]) hx hb dX0_findTale_82 hl (k := 2) rfl (by rw [ev8]; rfl) (by decide) rfl (fun ls hl => ?_)
        refine lv_goto (tgt := 60) hx hb dX0_findTale_85 (by decide) ?_
        exact ih x1 v8 S7 hR _ _ _ w (lv_sub hl [1, 2, 0] rfl)
  have L18 : ∀ (n : Nat), ∀ (x1 : Int32) (x2 : Int32) (S : SS), fX0_findTale_l18 N n x1 x2 S = some S' → WAT p l ev ({ frames := 5, cells := 0, slots := 0, locals := 126 } : Room) s m args below meth c QQ 5 D dA ad t1 t2 S T o 18 [(0, .ref (ad 29)), (1, .int x1), (2, .int x2)] [] := by
    intro n
    induction n with
    | zero =>
      intro x1 x2 S hR
      exact nomatch hR
    | succ n ih =>
      intro x1 x2 S hR H locs ls w hl
      rw [fX0_findTale_l18] at hR
      refine lv_iload_n hx hb dX0_findTale_18 rfl (lv_at hl 2 rfl) ?_
      refine lv_aload_n hx hb dX0_findTale_19 rfl (lv_at hl 0 rfl) ?_
      refine gX0_now X w lfX0_42 dX0_findTale_20 ?_
      refine gX8_ends (Or.inl rfl) X w lfX0_49 dX0_findTale_23 ?_
      refine lv_icmp_ge (tgt := 58) hx hb dX0_findTale_26 (by decide) (fun c1 => ?_) (fun c1 => ?_)
      · rw [if_pos c1] at hR
        refine lv_iconst (v := 1) hx hb dX0_findTale_58 (by decide) ?_
        refine lv_istore_n (lv' := [(2, .int 1), (0, .ref (ad 29)), (1, .int x1)]) hx hb dX0_findTale_59 rfl hl (by decide) rfl (fun ls hl => ?_)
        exact L60 N x1 1 S hR _ _ _ w (lv_sub hl [1, 2, 0] rfl)
      · rw [if_neg c1] at hR
        refine lv_iload_n hx hb dX0_findTale_29 rfl (lv_at hl 1 rfl) ?_
        refine lv_iload_n hx hb dX0_findTale_30 rfl (lv_at hl 2 rfl) ?_
        refine lv_ishr hx hb dX0_findTale_31 ?_
        refine lv_iconst (v := 1) hx hb dX0_findTale_32 (by decide) ?_
        refine lv_iand hx hb dX0_findTale_33 ?_
        refine lv_iconst (v := 1) hx hb dX0_findTale_34 (by decide) ?_
        refine lv_icmp_ne (tgt := 52) hx hb dX0_findTale_35 (by decide) (fun c2 => ?_) (fun c2 => ?_)
        · rw [if_neg c2] at hR
          obtain ⟨v3, ev3, hR⟩ := lt_e hR
          refine lv_iinc (v := v3) (lv' := [(2, .int v3), (0, .ref (ad 29)), (1, .int x1)]) hx hb dX0_findTale_52 hl (k := 2) rfl (by rw [ev3]; rfl) (by decide) rfl (fun ls hl => ?_)
          refine lv_goto (tgt := 18) hx hb dX0_findTale_55 (by decide) ?_
          exact ih x1 v3 S hR _ _ _ w (lv_sub hl [1, 2, 0] rfl)
        · rw [if_pos c2] at hR
          refine lv_aload_n hx hb dX0_findTale_38 rfl (lv_at hl 0 rfl) ?_
          refine gX0_rows X w lfX0_25 dX0_findTale_39 ?_
          refine lv_iconst (v := 1) hx hb dX0_findTale_42 (by decide) ?_
          refine lv_iload_n hx hb dX0_findTale_43 rfl (lv_at hl 2 rfl) ?_
          refine lv_ishl hx hb dX0_findTale_44 ?_
          refine lv_bipush (v := 7) hx hb dX0_findTale_45 (by decide) ?_
          refine lv_imul hx hb dX0_findTale_47 ?_
          refine lv_iload_n hx hb dX0_findTale_48 rfl (lv_at hl 2 rfl) ?_
          refine lv_iadd hx hb dX0_findTale_49 ?_
          refine lv_iload_n hx hb dX0_findTale_50 rfl (lv_at hl 2 rfl) ?_
          obtain ⟨g4, hR⟩ := ck_e hR
          obtain ⟨S5, eS5, hR⟩ := lt_e hR
          refine iasS (n := 896) rfl (by decide) X w rfl g4 dX0_findTale_51 (fun H locs w => ?_)
          rw [← eS5] at w
          obtain ⟨v6, ev6, hR⟩ := lt_e hR
          refine lv_iinc (v := v6) (lv' := [(2, .int v6), (0, .ref (ad 29)), (1, .int x1)]) hx hb dX0_findTale_52 hl (k := 2) rfl (by rw [ev6]; rfl) (by decide) rfl (fun ls hl => ?_)
          refine lv_goto (tgt := 18) hx hb dX0_findTale_55 (by decide) ?_
          exact ih x1 v6 S5 hR _ _ _ w (lv_sub hl [1, 2, 0] rfl)
  have hl : lv_has ls 5 [(0, .ref (ad 29))] := hl
  unfold fX0_findTale at hR
  refine lv_aload_n hx hb dX0_findTale_0 rfl (lv_at hl 0 rfl) ?_
  refine gX0_now X w lfX0_42 dX0_findTale_1 ?_
  obtain ⟨r2, h1, hR⟩ := bd_e hR
  refine cVi (k := 18) (As := []) (rest := []) X hl.1 w okX8_looseBits (obX8 (Or.inl rfl)) rfl lmX0_101 (kX8_looseBits (Or.inl rfl) h1) ⟨Nat.le_of_ble_eq_true rfl, Nat.le_of_ble_eq_true rfl⟩ ⟨rfl, rfl⟩ ⟨Nat.zero_le _, Nat.zero_le _⟩ rfl rfl (Nat.le_of_ble_eq_true rfl) dX0_findTale_4 (fun H locs zr2 w => ?_)
  refine lv_istore_n (lv' := [(1, .int r2), (0, .ref (ad 29))]) hx hb dX0_findTale_7 rfl hl (by decide) rfl (fun ls hl => ?_)
  refine lv_aload_n hx hb dX0_findTale_8 rfl (lv_at hl 1 rfl) ?_
  refine gX0_rows X w lfX0_25 dX0_findTale_9 ?_
  refine lv_iconst (v := -1) hx hb dX0_findTale_12 (by decide) ?_
  obtain ⟨S4, h3, hR⟩ := bd_e hR
  refine cSv (As := [.ref (ad 37), .int (-1)]) (rest := []) X hl.1 w okJ7_fill_53178 lmX0_104 (kJ7_fill_53178 ⟨rfl, (by decide)⟩ h3) ⟨Nat.le_of_ble_eq_true rfl, Nat.le_of_ble_eq_true rfl⟩ ⟨rfl, rfl⟩ ⟨Nat.zero_le _, Nat.zero_le _⟩ rfl rfl (Nat.le_of_ble_eq_true rfl) dX0_findTale_13 (fun H locs w => ?_)
  refine lv_iconst (v := 0) hx hb dX0_findTale_16 (by decide) ?_
  refine lv_istore_n (lv' := [(2, .int 0), (1, .int r2), (0, .ref (ad 29))]) hx hb dX0_findTale_17 rfl hl (by decide) rfl (fun ls hl => ?_)
  exact L18 N r2 0 S4 hR _ _ _ w (lv_sub hl [2, 1, 0] rfl)
/- LooseEnds$Advice.findTry(LLooseEnds$State;)V -/
def fX0_findTry_j60 (N : Nat) (k1 : Nat) (kc12 : Int32 → SS → Option (SS)) (kc22 : Int32 → Int32 → SS → Option (SS)) (x2 : Int32) (x3 : Int32) (S : SS) : Option (SS) := bd (fX8_sizeOf N S k1 x2) fun r2 =>
  b2 (fX10_goesWith N S k1 x2 x3 r2) fun S5 r4 =>
  if r4 = 0 then
  (lt (x3 + 1) fun v7 =>
  kc22 x2 v7 S5)
  else
  (lt (pj S5 29 10 1) fun S8 =>
  lt (pj S8 29 11 ((x2 * 10) + x3)) fun S9 =>
  some S9)
def fX0_findTry_l22 (N : Nat) (k1 : Nat) (kc12 : Int32 → SS → Option (SS)) : Nat → Int32 → Int32 → SS → Option (SS)
  | 0, _, _, _ => none
  | n + 1, x2, x3, S => if (gi S k1 4) ≤ x3 then
  (lt (x2 + 1) fun v2 =>
  kc12 v2 S)
  else
  (bd (fX8_isOpen N S k1 x2 x3) fun r4 =>
  if r4 = 0 then
  (lt (x3 + 1) fun v8 =>
  fX0_findTry_l22 N k1 kc12 n x2 v8 S)
  else
  (if (gi S 29 11) = (-1) then
  (lt (pj S 29 11 ((x2 * 10) + x3)) fun S7 =>
  fX0_findTry_j60 N k1 kc12 (fX0_findTry_l22 N k1 kc12 n) x2 x3 S7)
  else
  (fX0_findTry_j60 N k1 kc12 (fX0_findTry_l22 N k1 kc12 n) x2 x3 S)))
def fX0_findTry_l12 (N : Nat) (k1 : Nat) : Nat → Int32 → SS → Option (SS)
  | 0, _, _ => none
  | n + 1, x2, S => if (gi S k1 4) ≤ x2 then
  (some S)
  else
  (fX0_findTry_l22 N k1 (fX0_findTry_l12 N k1 n) N x2 0 S)
def fX0_findTry (N : Nat) (S : SS) (k1 : Nat) : Option (SS) := lt (pj S 29 10 0) fun S1 =>
  lt (pj S1 29 11 (-1)) fun S2 =>
  fX0_findTry_l12 N k1 N 0 S2
set_option maxHeartbeats 4000000 in
set_option maxRecDepth 100000 in
theorem kX0_findTry {l : Launch} {D : va_G} {dA : Nat → ClassId} {ad : Nat → Nat} {t1 t2 : Nat} {N : Nat} {k1 : Nat} (hk1 : k1 = 18 ∨ k1 = 30) {S T : SS} {o : Nat → Int64} {S' : SS} (hR : fX0_findTry N S k1 = some S') : KV l D dA ad t1 t2 yX0_findTry cX0_findTry 4 { frames := 4, cells := 0, slots := 0, locals := 101 } [.ref (ad 29), .ref (ad k1)] S T o S' T := by
  intro sz
  refine en_ (plainFor_of_name (by decide)) (Nat.le_of_ble_eq_true rfl) ?_
  intro p ev s m args below meth c QQ hQ hsz X hr hlk w ls hl
  have hx := X.1
  have hb := X.2.1
  have J60 : ∀ (kc12 : Int32 → SS → Option (SS)) (_ : ∀ (x2 : Int32) (S : SS), kc12 x2 S = some S' → WAT p l ev ({ frames := 4, cells := 0, slots := 0, locals := 101 } : Room) s m args below meth c QQ 4 D dA ad t1 t2 S T o 12 [(0, .ref (ad 29)), (1, .ref (ad k1)), (2, .int x2)] []) (kc22 : Int32 → Int32 → SS → Option (SS)) (_ : ∀ (x2 : Int32) (x3 : Int32) (S : SS), kc22 x2 x3 S = some S' → WAT p l ev ({ frames := 4, cells := 0, slots := 0, locals := 101 } : Room) s m args below meth c QQ 4 D dA ad t1 t2 S T o 22 [(0, .ref (ad 29)), (1, .ref (ad k1)), (2, .int x2), (3, .int x3)] []), ∀ (x2 : Int32) (x3 : Int32) (S : SS), fX0_findTry_j60 N k1 kc12 kc22 x2 x3 S = some S' → WAT p l ev ({ frames := 4, cells := 0, slots := 0, locals := 101 } : Room) s m args below meth c QQ 4 D dA ad t1 t2 S T o 60 [(0, .ref (ad 29)), (1, .ref (ad k1)), (2, .int x2), (3, .int x3)] [] := by
    intro kc12 hk12 kc22 hk22 x2 x3 S hR H locs ls w hl
    unfold fX0_findTry_j60 at hR
    refine lv_aload_n hx hb dX0_findTry_60 rfl (lv_at hl 0 rfl) ?_
    refine gX0_works X w lfX0_38 dX0_findTry_61 ?_
    refine lv_aload_n hx hb dX0_findTry_64 rfl (lv_at hl 1 rfl) ?_
    refine lv_iload_n hx hb dX0_findTry_65 rfl (lv_at hl 2 rfl) ?_
    refine lv_iload_n hx hb dX0_findTry_66 rfl (lv_at hl 3 rfl) ?_
    refine lv_aload_n hx hb dX0_findTry_67 rfl (lv_at hl 1 rfl) ?_
    refine lv_iload_n hx hb dX0_findTry_68 rfl (lv_at hl 2 rfl) ?_
    obtain ⟨r2, h1, hR⟩ := bd_e hR
    refine cVi (k := k1) (As := [.int x2]) (rest := [.int x3, .int x2, .ref (ad k1), .ref (ad 28)]) X hl.1 w okX8_sizeOf (obX8 hk1) rfl lmX0_45 (kX8_sizeOf hk1 h1) ⟨Nat.le_of_ble_eq_true rfl, Nat.le_of_ble_eq_true rfl⟩ ⟨rfl, rfl⟩ ⟨Nat.zero_le _, Nat.zero_le _⟩ rfl rfl (Nat.le_of_ble_eq_true rfl) dX0_findTry_69 (fun H locs zr2 w => ?_)
    obtain ⟨S5, r4, h3, hR⟩ := b2_e hR
    refine cVi (k := 28) (As := [.ref (ad k1), .int x2, .int x3, .int r2]) (rest := []) X hl.1 w okX10_goesWith obX10 rfl lmX0_57 (kX10_goesWith hk1 h3) ⟨Nat.le_of_ble_eq_true rfl, Nat.le_of_ble_eq_true rfl⟩ ⟨rfl, rfl⟩ ⟨Nat.zero_le _, Nat.zero_le _⟩ rfl rfl (Nat.le_of_ble_eq_true rfl) dX0_findTry_72 (fun H locs zr4 w => ?_)
    refine lv_if_eq (tgt := 94) hx hb dX0_findTry_75 (by decide) (fun c6 => ?_) (fun c6 => ?_)
    · rw [if_pos c6] at hR
      obtain ⟨v7, ev7, hR⟩ := lt_e hR
      refine lv_iinc (v := v7) (lv' := [(3, .int v7), (0, .ref (ad 29)), (1, .ref (ad k1)), (2, .int x2)]) hx hb dX0_findTry_94 hl (k := 3) rfl (by rw [ev7]; rfl) (by decide) rfl (fun ls hl => ?_)
      refine lv_goto (tgt := 22) hx hb dX0_findTry_97 (by decide) ?_
      exact hk22 x2 v7 S5 hR _ _ _ w (lv_sub hl [1, 2, 3, 0] rfl)
    · rw [if_neg c6] at hR
      refine lv_aload_n hx hb dX0_findTry_78 rfl (lv_at hl 0 rfl) ?_
      refine lv_iconst (v := 1) hx hb dX0_findTry_79 (by decide) ?_
      obtain ⟨S8, eS8, hR⟩ := lt_e hR
      refine pX0_best X w lfX0_70 dX0_findTry_80 (fun H locs w => ?_)
      rw [← eS8] at w
      refine lv_aload_n hx hb dX0_findTry_83 rfl (lv_at hl 0 rfl) ?_
      refine lv_iload_n hx hb dX0_findTry_84 rfl (lv_at hl 2 rfl) ?_
      refine lv_bipush (v := 10) hx hb dX0_findTry_85 (by decide) ?_
      refine lv_imul hx hb dX0_findTry_87 ?_
      refine lv_iload_n hx hb dX0_findTry_88 rfl (lv_at hl 3 rfl) ?_
      refine lv_iadd hx hb dX0_findTry_89 ?_
      obtain ⟨S9, eS9, hR⟩ := lt_e hR
      refine pX0_bestRow X w lfX0_91 dX0_findTry_90 (fun H locs w => ?_)
      rw [← eS9] at w
      rw [hQ]
      exact rt_v X hr hlk w hsz (lf1 hR) rfl dX0_findTry_93
  have L22 : ∀ (kc12 : Int32 → SS → Option (SS)) (_ : ∀ (x2 : Int32) (S : SS), kc12 x2 S = some S' → WAT p l ev ({ frames := 4, cells := 0, slots := 0, locals := 101 } : Room) s m args below meth c QQ 4 D dA ad t1 t2 S T o 12 [(0, .ref (ad 29)), (1, .ref (ad k1)), (2, .int x2)] []) (n : Nat), ∀ (x2 : Int32) (x3 : Int32) (S : SS), fX0_findTry_l22 N k1 kc12 n x2 x3 S = some S' → WAT p l ev ({ frames := 4, cells := 0, slots := 0, locals := 101 } : Room) s m args below meth c QQ 4 D dA ad t1 t2 S T o 22 [(0, .ref (ad 29)), (1, .ref (ad k1)), (2, .int x2), (3, .int x3)] [] := by
    intro kc12 hk12 n
    induction n with
    | zero =>
      intro x2 x3 S hR
      exact nomatch hR
    | succ n ih =>
      intro x2 x3 S hR H locs ls w hl
      rw [fX0_findTry_l22] at hR
      refine lv_iload_n hx hb dX0_findTry_22 rfl (lv_at hl 3 rfl) ?_
      refine lv_aload_n hx hb dX0_findTry_23 rfl (lv_at hl 1 rfl) ?_
      refine gX8_ends hk1 X w lfX0_49 dX0_findTry_24 ?_
      refine lv_icmp_ge (tgt := 100) hx hb dX0_findTry_27 (by decide) (fun c1 => ?_) (fun c1 => ?_)
      · rw [if_pos c1] at hR
        obtain ⟨v2, ev2, hR⟩ := lt_e hR
        refine lv_iinc (v := v2) (lv' := [(2, .int v2), (0, .ref (ad 29)), (1, .ref (ad k1)), (3, .int x3)]) hx hb dX0_findTry_100 hl (k := 2) rfl (by rw [ev2]; rfl) (by decide) rfl (fun ls hl => ?_)
        refine lv_goto (tgt := 12) hx hb dX0_findTry_103 (by decide) ?_
        exact hk12 v2 S hR _ _ _ w (lv_sub hl [1, 2, 0] rfl)
      · rw [if_neg c1] at hR
        refine lv_aload_n hx hb dX0_findTry_30 rfl (lv_at hl 1 rfl) ?_
        refine lv_iload_n hx hb dX0_findTry_31 rfl (lv_at hl 2 rfl) ?_
        refine lv_iload_n hx hb dX0_findTry_32 rfl (lv_at hl 3 rfl) ?_
        obtain ⟨r4, h3, hR⟩ := bd_e hR
        refine cVi (k := k1) (As := [.int x2, .int x3]) (rest := []) X hl.1 w okX8_isOpen (obX8 hk1) rfl lmX0_53 (kX8_isOpen hk1 h3) ⟨Nat.le_of_ble_eq_true rfl, Nat.le_of_ble_eq_true rfl⟩ ⟨rfl, rfl⟩ ⟨Nat.zero_le _, Nat.zero_le _⟩ rfl rfl (Nat.le_of_ble_eq_true rfl) dX0_findTry_33 (fun H locs zr4 w => ?_)
        refine lv_if_ne (tgt := 42) hx hb dX0_findTry_36 (by decide) (fun c5 => ?_) (fun c5 => ?_)
        · rw [if_neg c5] at hR
          refine lv_aload_n hx hb dX0_findTry_42 rfl (lv_at hl 0 rfl) ?_
          refine gX0_bestRow X w lfX0_91 dX0_findTry_43 ?_
          refine lv_iconst (v := -1) hx hb dX0_findTry_46 (by decide) ?_
          refine lv_icmp_ne (tgt := 60) hx hb dX0_findTry_47 (by decide) (fun c6 => ?_) (fun c6 => ?_)
          · rw [if_neg c6] at hR
            exact J60 _ hk12 _ ih x2 x3 S hR _ _ _ w (lv_sub hl [0, 1, 2, 3] rfl)
          · rw [if_pos c6] at hR
            refine lv_aload_n hx hb dX0_findTry_50 rfl (lv_at hl 0 rfl) ?_
            refine lv_iload_n hx hb dX0_findTry_51 rfl (lv_at hl 2 rfl) ?_
            refine lv_bipush (v := 10) hx hb dX0_findTry_52 (by decide) ?_
            refine lv_imul hx hb dX0_findTry_54 ?_
            refine lv_iload_n hx hb dX0_findTry_55 rfl (lv_at hl 3 rfl) ?_
            refine lv_iadd hx hb dX0_findTry_56 ?_
            obtain ⟨S7, eS7, hR⟩ := lt_e hR
            refine pX0_bestRow X w lfX0_91 dX0_findTry_57 (fun H locs w => ?_)
            rw [← eS7] at w
            exact J60 _ hk12 _ ih x2 x3 S7 hR _ _ _ w (lv_sub hl [0, 1, 2, 3] rfl)
        · rw [if_pos c5] at hR
          refine lv_goto (tgt := 94) hx hb dX0_findTry_39 (by decide) ?_
          obtain ⟨v8, ev8, hR⟩ := lt_e hR
          refine lv_iinc (v := v8) (lv' := [(3, .int v8), (0, .ref (ad 29)), (1, .ref (ad k1)), (2, .int x2)]) hx hb dX0_findTry_94 hl (k := 3) rfl (by rw [ev8]; rfl) (by decide) rfl (fun ls hl => ?_)
          refine lv_goto (tgt := 22) hx hb dX0_findTry_97 (by decide) ?_
          exact ih x2 v8 S hR _ _ _ w (lv_sub hl [1, 2, 3, 0] rfl)
  have L12 : ∀ (n : Nat), ∀ (x2 : Int32) (S : SS), fX0_findTry_l12 N k1 n x2 S = some S' → WAT p l ev ({ frames := 4, cells := 0, slots := 0, locals := 101 } : Room) s m args below meth c QQ 4 D dA ad t1 t2 S T o 12 [(0, .ref (ad 29)), (1, .ref (ad k1)), (2, .int x2)] [] := by
    intro n
    induction n with
    | zero =>
      intro x2 S hR
      exact nomatch hR
    | succ n ih =>
      intro x2 S hR H locs ls w hl
      rw [fX0_findTry_l12] at hR
      refine lv_iload_n hx hb dX0_findTry_12 rfl (lv_at hl 2 rfl) ?_
      refine lv_aload_n hx hb dX0_findTry_13 rfl (lv_at hl 1 rfl) ?_
      refine gX8_ends hk1 X w lfX0_49 dX0_findTry_14 ?_
      refine lv_icmp_ge (tgt := 106) hx hb dX0_findTry_17 (by decide) (fun c1 => ?_) (fun c1 => ?_)
      · rw [if_pos c1] at hR
        rw [hQ]
        exact rt_v X hr hlk w hsz (lf1 hR) rfl dX0_findTry_106
      · rw [if_neg c1] at hR
        refine lv_iconst (v := 0) hx hb dX0_findTry_20 (by decide) ?_
        refine lv_istore_n (lv' := [(3, .int 0), (0, .ref (ad 29)), (1, .ref (ad k1)), (2, .int x2)]) hx hb dX0_findTry_21 rfl hl (by decide) rfl (fun ls hl => ?_)
        exact L22 _ ih N x2 0 S hR _ _ _ w (lv_sub hl [1, 2, 3, 0] rfl)
  have hl : lv_has ls 4 [(0, .ref (ad 29)), (1, .ref (ad k1))] := hl
  unfold fX0_findTry at hR
  refine lv_aload_n hx hb dX0_findTry_0 rfl (lv_at hl 0 rfl) ?_
  refine lv_iconst (v := 0) hx hb dX0_findTry_1 (by decide) ?_
  obtain ⟨S1, eS1, hR⟩ := lt_e hR
  refine pX0_best X w lfX0_70 dX0_findTry_2 (fun H locs w => ?_)
  rw [← eS1] at w
  refine lv_aload_n hx hb dX0_findTry_5 rfl (lv_at hl 0 rfl) ?_
  refine lv_iconst (v := -1) hx hb dX0_findTry_6 (by decide) ?_
  obtain ⟨S2, eS2, hR⟩ := lt_e hR
  refine pX0_bestRow X w lfX0_91 dX0_findTry_7 (fun H locs w => ?_)
  rw [← eS2] at w
  refine lv_iconst (v := 0) hx hb dX0_findTry_10 (by decide) ?_
  refine lv_istore_n (lv' := [(2, .int 0), (0, .ref (ad 29)), (1, .ref (ad k1))]) hx hb dX0_findTry_11 rfl hl (by decide) rfl (fun ls hl => ?_)
  exact L12 N 0 S2 hR _ _ _ w (lv_sub hl [1, 2, 0] rfl)
/- LooseEnds$State.fadeBy(II)V -/
def fX8_fadeBy (N : Nat) (S : SS) (k0 : Nat) (p1 : Int32) (p2 : Int32) : Option (SS) := ck (inb p1 7) <|
  ck (inb p1 7) <|
  lt (pa S (k0 + 1) p1 (mx 0 ((ga S (k0 + 1) p1) - p2))) fun S3 =>
  some S3
set_option maxHeartbeats 4000000 in
set_option maxRecDepth 100000 in
theorem kX8_fadeBy {l : Launch} {D : va_G} {dA : Nat → ClassId} {ad : Nat → Nat} {t1 t2 : Nat} {N : Nat} {k0 : Nat} (hk0 : k0 = 18 ∨ k0 = 30) {S T : SS} {o : Nat → Int64} {p1 : Int32} {p2 : Int32} {S' : SS} (hR : fX8_fadeBy N S k0 p1 p2 = some S') : KV l D dA ad t1 t2 yX8_fadeBy cX8_fadeBy 3 { frames := 1, cells := 0, slots := 0, locals := 15 } [.ref (ad k0), .int p1, .int p2] S T o S' T := by
  intro sz
  refine en_ (plainFor_of_name (by decide)) (Nat.le_of_ble_eq_true rfl) ?_
  intro p ev s m args below meth c QQ hQ hsz X hr hlk w ls hl
  have hx := X.1
  have hb := X.2.1
  have hl : lv_has ls 3 [(0, .ref (ad k0)), (1, .int p1), (2, .int p2)] := hl
  unfold fX8_fadeBy at hR
  refine lv_aload_n hx hb dX8_fadeBy_0 rfl (lv_at hl 0 rfl) ?_
  refine gX8_colours hk0 X w lfX8_9 dX8_fadeBy_1 ?_
  refine lv_iload_n hx hb dX8_fadeBy_4 rfl (lv_at hl 1 rfl) ?_
  refine lv_iconst (v := 0) hx hb dX8_fadeBy_5 (by decide) ?_
  refine lv_aload_n hx hb dX8_fadeBy_6 rfl (lv_at hl 0 rfl) ?_
  refine gX8_colours hk0 X w lfX8_9 dX8_fadeBy_7 ?_
  refine lv_iload_n hx hb dX8_fadeBy_10 rfl (lv_at hl 1 rfl) ?_
  obtain ⟨g1, hR⟩ := ck_e hR
  refine ialS (n := 7) (ikX8_1 hk0) (lkX8_1 hk0) X w (nkX8_1 hk0) g1 dX8_fadeBy_11 ?_
  refine lv_iload_n hx hb dX8_fadeBy_12 rfl (lv_at hl 2 rfl) ?_
  refine lv_isub hx hb dX8_fadeBy_13 ?_
  refine mxI X hl.1 lmX8_86 ⟨Nat.le_of_ble_eq_true rfl, Nat.le_of_ble_eq_true rfl⟩ ⟨Nat.zero_le _, Nat.zero_le _⟩ dX8_fadeBy_14 ?_
  obtain ⟨g2, hR⟩ := ck_e hR
  obtain ⟨S3, eS3, hR⟩ := lt_e hR
  refine iasS (n := 7) (ikX8_1 hk0) (lkX8_1 hk0) X w (nkX8_1 hk0) g2 dX8_fadeBy_17 (fun H locs w => ?_)
  rw [← eS3] at w
  rw [hQ]
  exact rt_v X hr hlk w hsz (lf1 hR) rfl dX8_fadeBy_18
/- LooseEnds$Works.tryOn(LLooseEnds$State;II)Z -/
def fX10_tryOn_j37 (N : Nat) (k1 : Nat) (x2 : Int32) (x3 : Int32) (x4 : Int32) (S : SS) : Option (SS × Int32) := bd (fX8_fadeBy N S k1 x2 (gi S 3 2)) fun S2 =>
  bd (fX8_fadeBy N S2 k1 x3 (gi S2 3 2)) fun S4 =>
  lt (pj S4 k1 6 ((gi S4 k1 6) + 1)) fun S5 =>
  ck (isb x4) <|
  some (S5, x4)
def fX10_tryOn (N : Nat) (S : SS) (k1 : Nat) (p2 : Int32) (p3 : Int32) : Option (SS × Int32) := bd (fX8_sizeOf N S k1 p2) fun r2 =>
  b2 (fX10_goesWith N S k1 p2 p3 r2) fun S5 r4 =>
  if r4 = 0 then
  (fX10_tryOn_j37 N k1 p2 p3 r4 S5)
  else
  (bd (fX8_join N S5 k1 p2 p3) fun S8 =>
  lt (pj S8 k1 7 ((gi S8 k1 7) ||| (sl 1 p2))) fun S9 =>
  fX10_tryOn_j37 N k1 p2 p3 r4 S9)
set_option maxHeartbeats 4000000 in
set_option maxRecDepth 100000 in
theorem kX10_tryOn {l : Launch} {D : va_G} {dA : Nat → ClassId} {ad : Nat → Nat} {t1 t2 : Nat} {N : Nat} {k1 : Nat} (hk1 : k1 = 18 ∨ k1 = 30) {S T : SS} {o : Nat → Int64} {p2 : Int32} {p3 : Int32} {r : Int32} {S' : SS} (hR : fX10_tryOn N S k1 p2 p3 = some (S', r)) : KI l D dA ad t1 t2 yX10_tryOn cX10_tryOn 5 .boolean { frames := 4, cells := 0, slots := 0, locals := 101 } [.ref (ad 28), .ref (ad k1), .int p2, .int p3] S T o r S' T := by
  intro sz
  refine en_ (plainFor_of_name (by decide)) (Nat.le_of_ble_eq_true rfl) ?_
  intro p ev s m args below meth c QQ hQ hsz X hr hlk w ls hl
  have hx := X.1
  have hb := X.2.1
  have J37 : ∀ (x2 : Int32) (x3 : Int32) (x4 : Int32) (S : SS), fX10_tryOn_j37 N k1 x2 x3 x4 S = some (S', r) → WAT p l ev ({ frames := 4, cells := 0, slots := 0, locals := 101 } : Room) s m args below meth c QQ 5 D dA ad t1 t2 S T o 37 [(0, .ref (ad 28)), (1, .ref (ad k1)), (2, .int x2), (3, .int x3), (4, .int x4)] [] := by
    intro x2 x3 x4 S hR H locs ls w hl
    unfold fX10_tryOn_j37 at hR
    refine lv_aload_n hx hb dX10_tryOn_37 rfl (lv_at hl 1 rfl) ?_
    refine lv_iload_n hx hb dX10_tryOn_38 rfl (lv_at hl 2 rfl) ?_
    refine lv_aload_n hx hb dX10_tryOn_39 rfl (lv_at hl 0 rfl) ?_
    refine gX10_mill X w lfX10_9 dX10_tryOn_40 ?_
    refine gX5_fade (Or.inl rfl) X w lfX10_81 dX10_tryOn_43 ?_
    obtain ⟨S2, h1, hR⟩ := bd_e hR
    refine cVv (k := k1) (As := [.int x2, .int (gi S 3 2)]) (rest := []) X hl.1 w okX8_fadeBy (obX8 hk1) rfl lmX10_84 (kX8_fadeBy hk1 h1) ⟨Nat.le_of_ble_eq_true rfl, Nat.le_of_ble_eq_true rfl⟩ ⟨rfl, rfl⟩ ⟨Nat.zero_le _, Nat.zero_le _⟩ rfl rfl (Nat.le_of_ble_eq_true rfl) dX10_tryOn_46 (fun H locs w => ?_)
    refine lv_aload_n hx hb dX10_tryOn_49 rfl (lv_at hl 1 rfl) ?_
    refine lv_iload_n hx hb dX10_tryOn_50 rfl (lv_at hl 3 rfl) ?_
    refine lv_aload_n hx hb dX10_tryOn_51 rfl (lv_at hl 0 rfl) ?_
    refine gX10_mill X w lfX10_9 dX10_tryOn_52 ?_
    refine gX5_fade (Or.inl rfl) X w lfX10_81 dX10_tryOn_55 ?_
    obtain ⟨S4, h3, hR⟩ := bd_e hR
    refine cVv (k := k1) (As := [.int x3, .int (gi S2 3 2)]) (rest := []) X hl.1 w okX8_fadeBy (obX8 hk1) rfl lmX10_84 (kX8_fadeBy hk1 h3) ⟨Nat.le_of_ble_eq_true rfl, Nat.le_of_ble_eq_true rfl⟩ ⟨rfl, rfl⟩ ⟨Nat.zero_le _, Nat.zero_le _⟩ rfl rfl (Nat.le_of_ble_eq_true rfl) dX10_tryOn_58 (fun H locs w => ?_)
    refine lv_aload_n hx hb dX10_tryOn_61 rfl (lv_at hl 1 rfl) ?_
    refine lv_dup hx hb dX10_tryOn_62 rfl ?_
    refine gX8_tries hk1 X w lfX10_61 dX10_tryOn_63 ?_
    refine lv_iconst (v := 1) hx hb dX10_tryOn_66 (by decide) ?_
    refine lv_iadd hx hb dX10_tryOn_67 ?_
    obtain ⟨S5, eS5, hR⟩ := lt_e hR
    refine pX8_tries hk1 X w lfX10_61 dX10_tryOn_68 (fun H locs w => ?_)
    rw [← eS5] at w
    refine lv_iload hx hb dX10_tryOn_71 (lv_at hl 4 rfl) ?_
    obtain ⟨g6, hR⟩ := ck_e hR
    rw [hQ]
    exact rt_i X hr hlk w hsz (isb_n g6) (lf2 hR).1 rfl (lf2 hR).2 dX10_tryOn_73
  have hl : lv_has ls 5 [(0, .ref (ad 28)), (1, .ref (ad k1)), (2, .int p2), (3, .int p3)] := hl
  unfold fX10_tryOn at hR
  refine lv_aload_n hx hb dX10_tryOn_0 rfl (lv_at hl 0 rfl) ?_
  refine lv_aload_n hx hb dX10_tryOn_1 rfl (lv_at hl 1 rfl) ?_
  refine lv_iload_n hx hb dX10_tryOn_2 rfl (lv_at hl 2 rfl) ?_
  refine lv_iload_n hx hb dX10_tryOn_3 rfl (lv_at hl 3 rfl) ?_
  refine lv_aload_n hx hb dX10_tryOn_4 rfl (lv_at hl 1 rfl) ?_
  refine lv_iload_n hx hb dX10_tryOn_5 rfl (lv_at hl 2 rfl) ?_
  obtain ⟨r2, h1, hR⟩ := bd_e hR
  refine cVi (k := k1) (As := [.int p2]) (rest := [.int p3, .int p2, .ref (ad k1), .ref (ad 28)]) X hl.1 w okX8_sizeOf (obX8 hk1) rfl lmX10_67 (kX8_sizeOf hk1 h1) ⟨Nat.le_of_ble_eq_true rfl, Nat.le_of_ble_eq_true rfl⟩ ⟨rfl, rfl⟩ ⟨Nat.zero_le _, Nat.zero_le _⟩ rfl rfl (Nat.le_of_ble_eq_true rfl) dX10_tryOn_6 (fun H locs zr2 w => ?_)
  obtain ⟨S5, r4, h3, hR⟩ := b2_e hR
  refine cVi (k := 28) (As := [.ref (ad k1), .int p2, .int p3, .int r2]) (rest := []) X hl.1 w okX10_goesWith obX10 rfl lmX10_70 (kX10_goesWith hk1 h3) ⟨Nat.le_of_ble_eq_true rfl, Nat.le_of_ble_eq_true rfl⟩ ⟨rfl, rfl⟩ ⟨Nat.zero_le _, Nat.zero_le _⟩ rfl rfl (Nat.le_of_ble_eq_true rfl) dX10_tryOn_9 (fun H locs zr4 w => ?_)
  refine lv_istore (lv' := [(4, .int r4), (0, .ref (ad 28)), (1, .ref (ad k1)), (2, .int p2), (3, .int p3)]) hx hb dX10_tryOn_12 hl (by decide) rfl (fun ls hl => ?_)
  refine lv_iload hx hb dX10_tryOn_14 (lv_at hl 0 rfl) ?_
  refine lv_if_eq (tgt := 37) hx hb dX10_tryOn_16 (by decide) (fun c6 => ?_) (fun c6 => ?_)
  · rw [if_pos c6] at hR
    exact J37 p2 p3 r4 S5 hR _ _ _ w (lv_sub hl [1, 2, 3, 4, 0] rfl)
  · rw [if_neg c6] at hR
    refine lv_aload_n hx hb dX10_tryOn_19 rfl (lv_at hl 2 rfl) ?_
    refine lv_iload_n hx hb dX10_tryOn_20 rfl (lv_at hl 3 rfl) ?_
    refine lv_iload_n hx hb dX10_tryOn_21 rfl (lv_at hl 4 rfl) ?_
    obtain ⟨S8, h7, hR⟩ := bd_e hR
    refine cVv (k := k1) (As := [.int p2, .int p3]) (rest := []) X hl.1 w okX8_join (obX8 hk1) rfl lmX10_74 (kX8_join hk1 h7) ⟨Nat.le_of_ble_eq_true rfl, Nat.le_of_ble_eq_true rfl⟩ ⟨rfl, rfl⟩ ⟨Nat.zero_le _, Nat.zero_le _⟩ rfl rfl (Nat.le_of_ble_eq_true rfl) dX10_tryOn_22 (fun H locs w => ?_)
    refine lv_aload_n hx hb dX10_tryOn_25 rfl (lv_at hl 2 rfl) ?_
    refine lv_dup hx hb dX10_tryOn_26 rfl ?_
    refine gX8_made hk1 X w lfX10_78 dX10_tryOn_27 ?_
    refine lv_iconst (v := 1) hx hb dX10_tryOn_30 (by decide) ?_
    refine lv_iload_n hx hb dX10_tryOn_31 rfl (lv_at hl 3 rfl) ?_
    refine lv_ishl hx hb dX10_tryOn_32 ?_
    refine lv_ior hx hb dX10_tryOn_33 ?_
    obtain ⟨S9, eS9, hR⟩ := lt_e hR
    refine pX8_made hk1 X w lfX10_78 dX10_tryOn_34 (fun H locs w => ?_)
    rw [← eS9] at w
    exact J37 p2 p3 r4 S9 hR _ _ _ w (lv_sub hl [1, 2, 3, 4, 0] rfl)
/- LooseEnds$Advice.tryAndFindNext(II)V -/
def fX0_tryAndFindNext_j32 (N : Nat) (x1 : Int32) (x2 : Int32) (y0 : Int32) (S : SS) : Option (SS) := lt ((x1 * 10) + x2) fun v1 =>
  bd (fX0_findTry N S 30) fun S3 =>
  lt (pj S3 29 10 ((gi S3 29 10) + y0)) fun S4 =>
  if (gi S4 29 11) = (-1) then
  (lt (pj S4 29 11 v1) fun S7 =>
  some S7)
  else
  (lt (pj S4 29 11 ((v1 * 100) + (gi S4 29 11))) fun S6 =>
  some S6)
def fX0_tryAndFindNext (N : Nat) (S : SS) (p1 : Int32) (p2 : Int32) : Option (SS) := bd (fX8_copyFrom N S 30 18) fun S2 =>
  b2 (fX10_tryOn N S2 30 p1 p2) fun S5 r4 =>
  if r4 = 0 then
  (fX0_tryAndFindNext_j32 N p1 p2 0 S5)
  else
  (fX0_tryAndFindNext_j32 N p1 p2 1 S5)
set_option maxHeartbeats 4000000 in
set_option maxRecDepth 100000 in
theorem kX0_tryAndFindNext {l : Launch} {D : va_G} {dA : Nat → ClassId} {ad : Nat → Nat} {t1 t2 : Nat} {N : Nat} {S T : SS} {o : Nat → Int64} {p1 : Int32} {p2 : Int32} {S' : SS} (hR : fX0_tryAndFindNext N S p1 p2 = some S') : KV l D dA ad t1 t2 yX0_tryAndFindNext cX0_tryAndFindNext 5 { frames := 5, cells := 0, slots := 0, locals := 125 } [.ref (ad 29), .int p1, .int p2] S T o S' T := by
  intro sz
  refine en_ (plainFor_of_name (by decide)) (Nat.le_of_ble_eq_true rfl) ?_
  intro p ev s m args below meth c QQ hQ hsz X hr hlk w ls hl
  have hx := X.1
  have hb := X.2.1
  have J32 : ∀ (x1 : Int32) (x2 : Int32) (y0 : Int32) (S : SS), fX0_tryAndFindNext_j32 N x1 x2 y0 S = some S' → WAT p l ev ({ frames := 5, cells := 0, slots := 0, locals := 125 } : Room) s m args below meth c QQ 5 D dA ad t1 t2 S T o 32 [(0, .ref (ad 29)), (1, .int x1), (2, .int x2)] [.int y0] := by
    intro x1 x2 y0 S hR H locs ls w hl
    unfold fX0_tryAndFindNext_j32 at hR
    refine lv_istore_n (lv' := [(3, .int y0), (0, .ref (ad 29)), (1, .int x1), (2, .int x2)]) hx hb dX0_tryAndFindNext_32 rfl hl (by decide) rfl (fun ls hl => ?_)
    refine lv_iload_n hx hb dX0_tryAndFindNext_33 rfl (lv_at hl 2 rfl) ?_
    refine lv_bipush (v := 10) hx hb dX0_tryAndFindNext_34 (by decide) ?_
    refine lv_imul hx hb dX0_tryAndFindNext_36 ?_
    refine lv_iload_n hx hb dX0_tryAndFindNext_37 rfl (lv_at hl 3 rfl) ?_
    refine lv_iadd hx hb dX0_tryAndFindNext_38 ?_
    obtain ⟨v1, ev1, hR⟩ := lt_e hR
    refine nm_i ev1 ?_
    refine lv_istore (lv' := [(4, .int v1), (3, .int y0), (0, .ref (ad 29)), (1, .int x1), (2, .int x2)]) hx hb dX0_tryAndFindNext_39 hl (by decide) rfl (fun ls hl => ?_)
    refine lv_aload_n hx hb dX0_tryAndFindNext_41 rfl (lv_at hl 2 rfl) ?_
    refine lv_aload_n hx hb dX0_tryAndFindNext_42 rfl (lv_at hl 2 rfl) ?_
    refine gX0_trial X w lfX0_12 dX0_tryAndFindNext_43 ?_
    obtain ⟨S3, h2, hR⟩ := bd_e hR
    refine cVv (k := 29) (As := [.ref (ad 30)]) (rest := []) X hl.1 w okX0_findTry obX0 rfl lmX0_142 (kX0_findTry (Or.inr rfl) h2) ⟨Nat.le_of_ble_eq_true rfl, Nat.le_of_ble_eq_true rfl⟩ ⟨rfl, rfl⟩ ⟨Nat.zero_le _, Nat.zero_le _⟩ rfl rfl (Nat.le_of_ble_eq_true rfl) dX0_tryAndFindNext_46 (fun H locs w => ?_)
    refine lv_aload_n hx hb dX0_tryAndFindNext_49 rfl (lv_at hl 2 rfl) ?_
    refine lv_dup hx hb dX0_tryAndFindNext_50 rfl ?_
    refine gX0_best X w lfX0_70 dX0_tryAndFindNext_51 ?_
    refine lv_iload_n hx hb dX0_tryAndFindNext_54 rfl (lv_at hl 1 rfl) ?_
    refine lv_iadd hx hb dX0_tryAndFindNext_55 ?_
    obtain ⟨S4, eS4, hR⟩ := lt_e hR
    refine pX0_best X w lfX0_70 dX0_tryAndFindNext_56 (fun H locs w => ?_)
    rw [← eS4] at w
    refine lv_aload_n hx hb dX0_tryAndFindNext_59 rfl (lv_at hl 2 rfl) ?_
    refine lv_aload_n hx hb dX0_tryAndFindNext_60 rfl (lv_at hl 2 rfl) ?_
    refine gX0_bestRow X w lfX0_91 dX0_tryAndFindNext_61 ?_
    refine lv_iconst (v := -1) hx hb dX0_tryAndFindNext_64 (by decide) ?_
    refine lv_icmp_ne (tgt := 73) hx hb dX0_tryAndFindNext_65 (by decide) (fun c5 => ?_) (fun c5 => ?_)
    · rw [if_neg c5] at hR
      refine lv_iload hx hb dX0_tryAndFindNext_73 (lv_at hl 0 rfl) ?_
      refine lv_bipush (v := 100) hx hb dX0_tryAndFindNext_75 (by decide) ?_
      refine lv_imul hx hb dX0_tryAndFindNext_77 ?_
      refine lv_aload_n hx hb dX0_tryAndFindNext_78 rfl (lv_at hl 2 rfl) ?_
      refine gX0_bestRow X w lfX0_91 dX0_tryAndFindNext_79 ?_
      refine lv_iadd hx hb dX0_tryAndFindNext_82 ?_
      obtain ⟨S6, eS6, hR⟩ := lt_e hR
      refine pX0_bestRow X w lfX0_91 dX0_tryAndFindNext_83 (fun H locs w => ?_)
      rw [← eS6] at w
      rw [hQ]
      exact rt_v X hr hlk w hsz (lf1 hR) rfl dX0_tryAndFindNext_86
    · rw [if_pos c5] at hR
      refine lv_iload hx hb dX0_tryAndFindNext_68 (lv_at hl 0 rfl) ?_
      refine lv_goto (tgt := 83) hx hb dX0_tryAndFindNext_70 (by decide) ?_
      obtain ⟨S7, eS7, hR⟩ := lt_e hR
      refine pX0_bestRow X w lfX0_91 dX0_tryAndFindNext_83 (fun H locs w => ?_)
      rw [← eS7] at w
      rw [hQ]
      exact rt_v X hr hlk w hsz (lf1 hR) rfl dX0_tryAndFindNext_86
  have hl : lv_has ls 5 [(0, .ref (ad 29)), (1, .int p1), (2, .int p2)] := hl
  unfold fX0_tryAndFindNext at hR
  refine lv_aload_n hx hb dX0_tryAndFindNext_0 rfl (lv_at hl 0 rfl) ?_
  refine gX0_trial X w lfX0_12 dX0_tryAndFindNext_1 ?_
  refine lv_aload_n hx hb dX0_tryAndFindNext_4 rfl (lv_at hl 0 rfl) ?_
  refine gX0_now X w lfX0_42 dX0_tryAndFindNext_5 ?_
  obtain ⟨S2, h1, hR⟩ := bd_e hR
  refine cVv (k := 30) (As := [.ref (ad 18)]) (rest := []) X hl.1 w okX8_copyFrom (obX8 (Or.inr rfl)) rfl lmX0_63 (kX8_copyFrom (Or.inr rfl) (Or.inl rfl) h1) ⟨Nat.le_of_ble_eq_true rfl, Nat.le_of_ble_eq_true rfl⟩ ⟨rfl, rfl⟩ ⟨Nat.zero_le _, Nat.zero_le _⟩ rfl rfl (Nat.le_of_ble_eq_true rfl) dX0_tryAndFindNext_8 (fun H locs w => ?_)
  refine lv_aload_n hx hb dX0_tryAndFindNext_11 rfl (lv_at hl 0 rfl) ?_
  refine gX0_works X w lfX0_38 dX0_tryAndFindNext_12 ?_
  refine lv_aload_n hx hb dX0_tryAndFindNext_15 rfl (lv_at hl 0 rfl) ?_
  refine gX0_trial X w lfX0_12 dX0_tryAndFindNext_16 ?_
  refine lv_iload_n hx hb dX0_tryAndFindNext_19 rfl (lv_at hl 1 rfl) ?_
  refine lv_iload_n hx hb dX0_tryAndFindNext_20 rfl (lv_at hl 2 rfl) ?_
  obtain ⟨S5, r4, h3, hR⟩ := b2_e hR
  refine cVi (k := 28) (As := [.ref (ad 30), .int p1, .int p2]) (rest := []) X hl.1 w okX10_tryOn obX10 rfl lmX0_138 (kX10_tryOn (Or.inr rfl) h3) ⟨Nat.le_of_ble_eq_true rfl, Nat.le_of_ble_eq_true rfl⟩ ⟨rfl, rfl⟩ ⟨Nat.zero_le _, Nat.zero_le _⟩ rfl rfl (Nat.le_of_ble_eq_true rfl) dX0_tryAndFindNext_21 (fun H locs zr4 w => ?_)
  refine lv_if_eq (tgt := 31) hx hb dX0_tryAndFindNext_24 (by decide) (fun c6 => ?_) (fun c6 => ?_)
  · rw [if_pos c6] at hR
    refine lv_iconst (v := 0) hx hb dX0_tryAndFindNext_31 (by decide) ?_
    exact J32 p1 p2 0 S5 hR _ _ _ w (lv_sub hl [0, 1, 2] rfl)
  · rw [if_neg c6] at hR
    refine lv_iconst (v := 1) hx hb dX0_tryAndFindNext_27 (by decide) ?_
    refine lv_goto (tgt := 32) hx hb dX0_tryAndFindNext_28 (by decide) ?_
    exact J32 p1 p2 1 S5 hR _ _ _ w (lv_sub hl [0, 1, 2] rfl)
/- LooseEnds$Advice.findTwoTries()V -/
def fX0_findTwoTries_l25 (N : Nat) (kc6 : Int32 → Int32 → Int32 → SS → Option (SS)) : Nat → Int32 → Int32 → Int32 → Int32 → SS → Option (SS)
  | 0, _, _, _, _, _ => none
  | n + 1, x1, x2, x3, x4, S => if (gi S 18 4) ≤ x4 then
  (lt (x3 + 1) fun v2 =>
  kc6 x1 x2 v2 S)
  else
  (if 2 ≤ x1 then
  (lt (x3 + 1) fun v4 =>
  kc6 x1 x2 v4 S)
  else
  (bd (fX8_isOpen N S 18 x3 x4) fun r6 =>
  if r6 = 0 then
  (lt (x4 + 1) fun v8 =>
  fX0_findTwoTries_l25 N kc6 n x1 x2 x3 v8 S)
  else
  (bd (fX0_tryAndFindNext N S x3 x4) fun S10 =>
  if x2 = (-1) then
  (lt (gi S10 29 10) fun v12 =>
  lt (gi S10 29 11) fun v13 =>
  lt (x4 + 1) fun v14 =>
  fX0_findTwoTries_l25 N kc6 n v12 v13 x3 v14 S10)
  else
  (if x1 < (gi S10 29 10) then
  (lt (gi S10 29 10) fun v16 =>
  lt (gi S10 29 11) fun v17 =>
  lt (x4 + 1) fun v18 =>
  fX0_findTwoTries_l25 N kc6 n v16 v17 x3 v18 S10)
  else
  (if (gi S10 29 10) = x1 then
  (if x2 ≤ (gi S10 29 11) then
  (lt (x4 + 1) fun v22 =>
  fX0_findTwoTries_l25 N kc6 n x1 x2 x3 v22 S10)
  else
  (lt (gi S10 29 10) fun v23 =>
  lt (gi S10 29 11) fun v24 =>
  lt (x4 + 1) fun v25 =>
  fX0_findTwoTries_l25 N kc6 n v23 v24 x3 v25 S10))
  else
  (lt (x4 + 1) fun v20 =>
  fX0_findTwoTries_l25 N kc6 n x1 x2 x3 v20 S10))))))
def fX0_findTwoTries_l6 (N : Nat) : Nat → Int32 → Int32 → Int32 → SS → Option (SS)
  | 0, _, _, _, _ => none
  | n + 1, x1, x2, x3, S => if (gi S 18 4) ≤ x3 then
  (lt (pj S 29 10 x1) fun S2 =>
  lt (pj S2 29 11 x2) fun S3 =>
  some S3)
  else
  (if 2 ≤ x1 then
  (lt (pj S 29 10 x1) fun S5 =>
  lt (pj S5 29 11 x2) fun S6 =>
  some S6)
  else
  (fX0_findTwoTries_l25 N (fX0_findTwoTries_l6 N n) N x1 x2 x3 0 S))
def fX0_findTwoTries (N : Nat) (S : SS) : Option (SS) := lt ((-1)) fun v1 =>
  fX0_findTwoTries_l6 N N 0 v1 0 S
set_option maxHeartbeats 4000000 in
set_option maxRecDepth 100000 in
theorem kX0_findTwoTries {l : Launch} {D : va_G} {dA : Nat → ClassId} {ad : Nat → Nat} {t1 t2 : Nat} {N : Nat} {S T : SS} {o : Nat → Int64} {S' : SS} (hR : fX0_findTwoTries N S = some S') : KV l D dA ad t1 t2 yX0_findTwoTries cX0_findTwoTries 5 { frames := 6, cells := 0, slots := 0, locals := 149 } [.ref (ad 29)] S T o S' T := by
  intro sz
  refine en_ (plainFor_of_name (by decide)) (Nat.le_of_ble_eq_true rfl) ?_
  intro p ev s m args below meth c QQ hQ hsz X hr hlk w ls hl
  have hx := X.1
  have hb := X.2.1
  have L25 : ∀ (kc6 : Int32 → Int32 → Int32 → SS → Option (SS)) (_ : ∀ (x1 : Int32) (x2 : Int32) (x3 : Int32) (S : SS), kc6 x1 x2 x3 S = some S' → WAT p l ev ({ frames := 6, cells := 0, slots := 0, locals := 149 } : Room) s m args below meth c QQ 5 D dA ad t1 t2 S T o 6 [(0, .ref (ad 29)), (1, .int x1), (2, .int x2), (3, .int x3)] []) (n : Nat), ∀ (x1 : Int32) (x2 : Int32) (x3 : Int32) (x4 : Int32) (S : SS), fX0_findTwoTries_l25 N kc6 n x1 x2 x3 x4 S = some S' → WAT p l ev ({ frames := 6, cells := 0, slots := 0, locals := 149 } : Room) s m args below meth c QQ 5 D dA ad t1 t2 S T o 25 [(0, .ref (ad 29)), (1, .int x1), (2, .int x2), (3, .int x3), (4, .int x4)] [] := by
    intro kc6 hk6 n
    induction n with
    | zero =>
      intro x1 x2 x3 x4 S hR
      exact nomatch hR
    | succ n ih =>
      intro x1 x2 x3 x4 S hR H locs ls w hl
      rw [fX0_findTwoTries_l25] at hR
      refine lv_iload hx hb dX0_findTwoTries_25 (lv_at hl 4 rfl) ?_
      refine lv_aload_n hx hb dX0_findTwoTries_27 rfl (lv_at hl 0 rfl) ?_
      refine gX0_now X w lfX0_42 dX0_findTwoTries_28 ?_
      refine gX8_ends (Or.inl rfl) X w lfX0_49 dX0_findTwoTries_31 ?_
      refine lv_icmp_ge (tgt := 107) hx hb dX0_findTwoTries_34 (by decide) (fun c1 => ?_) (fun c1 => ?_)
      · rw [if_pos c1] at hR
        obtain ⟨v2, ev2, hR⟩ := lt_e hR
        refine lv_iinc (v := v2) (lv' := [(3, .int v2), (0, .ref (ad 29)), (1, .int x1), (2, .int x2), (4, .int x4)]) hx hb dX0_findTwoTries_107 hl (k := 3) rfl (by rw [ev2]; rfl) (by decide) rfl (fun ls hl => ?_)
        refine lv_goto (tgt := 6) hx hb dX0_findTwoTries_110 (by decide) ?_
        exact hk6 x1 x2 v2 S hR _ _ _ w (lv_sub hl [1, 2, 3, 0] rfl)
      · rw [if_neg c1] at hR
        refine lv_iload_n hx hb dX0_findTwoTries_37 rfl (lv_at hl 1 rfl) ?_
        refine lv_iconst (v := 2) hx hb dX0_findTwoTries_38 (by decide) ?_
        refine lv_icmp_ge (tgt := 107) hx hb dX0_findTwoTries_39 (by decide) (fun c3 => ?_) (fun c3 => ?_)
        · rw [if_pos c3] at hR
          obtain ⟨v4, ev4, hR⟩ := lt_e hR
          refine lv_iinc (v := v4) (lv' := [(3, .int v4), (0, .ref (ad 29)), (1, .int x1), (2, .int x2), (4, .int x4)]) hx hb dX0_findTwoTries_107 hl (k := 3) rfl (by rw [ev4]; rfl) (by decide) rfl (fun ls hl => ?_)
          refine lv_goto (tgt := 6) hx hb dX0_findTwoTries_110 (by decide) ?_
          exact hk6 x1 x2 v4 S hR _ _ _ w (lv_sub hl [1, 2, 3, 0] rfl)
        · rw [if_neg c3] at hR
          refine lv_aload_n hx hb dX0_findTwoTries_42 rfl (lv_at hl 0 rfl) ?_
          refine gX0_now X w lfX0_42 dX0_findTwoTries_43 ?_
          refine lv_iload_n hx hb dX0_findTwoTries_46 rfl (lv_at hl 3 rfl) ?_
          refine lv_iload hx hb dX0_findTwoTries_47 (lv_at hl 4 rfl) ?_
          obtain ⟨r6, h5, hR⟩ := bd_e hR
          refine cVi (k := 18) (As := [.int x3, .int x4]) (rest := []) X hl.1 w okX8_isOpen (obX8 (Or.inl rfl)) rfl lmX0_53 (kX8_isOpen (Or.inl rfl) h5) ⟨Nat.le_of_ble_eq_true rfl, Nat.le_of_ble_eq_true rfl⟩ ⟨rfl, rfl⟩ ⟨Nat.zero_le _, Nat.zero_le _⟩ rfl rfl (Nat.le_of_ble_eq_true rfl) dX0_findTwoTries_49 (fun H locs zr6 w => ?_)
          refine lv_if_eq (tgt := 101) hx hb dX0_findTwoTries_52 (by decide) (fun c7 => ?_) (fun c7 => ?_)
          · rw [if_pos c7] at hR
            obtain ⟨v8, ev8, hR⟩ := lt_e hR
            refine lv_iinc (v := v8) (lv' := [(4, .int v8), (0, .ref (ad 29)), (1, .int x1), (2, .int x2), (3, .int x3)]) hx hb dX0_findTwoTries_101 hl (k := 4) rfl (by rw [ev8]; rfl) (by decide) rfl (fun ls hl => ?_)
            refine lv_goto (tgt := 25) hx hb dX0_findTwoTries_104 (by decide) ?_
            exact ih x1 x2 x3 v8 S hR _ _ _ w (lv_sub hl [1, 2, 3, 4, 0] rfl)
          · rw [if_neg c7] at hR
            refine lv_aload_n hx hb dX0_findTwoTries_55 rfl (lv_at hl 0 rfl) ?_
            refine lv_iload_n hx hb dX0_findTwoTries_56 rfl (lv_at hl 3 rfl) ?_
            refine lv_iload hx hb dX0_findTwoTries_57 (lv_at hl 4 rfl) ?_
            obtain ⟨S10, h9, hR⟩ := bd_e hR
            refine cVv (k := 29) (As := [.int x3, .int x4]) (rest := []) X hl.1 w okX0_tryAndFindNext obX0 rfl lmX0_135 (kX0_tryAndFindNext h9) ⟨Nat.le_of_ble_eq_true rfl, Nat.le_of_ble_eq_true rfl⟩ ⟨rfl, rfl⟩ ⟨Nat.zero_le _, Nat.zero_le _⟩ rfl rfl (Nat.le_of_ble_eq_true rfl) dX0_findTwoTries_59 (fun H locs w => ?_)
            refine lv_iload_n hx hb dX0_findTwoTries_62 rfl (lv_at hl 2 rfl) ?_
            refine lv_iconst (v := -1) hx hb dX0_findTwoTries_63 (by decide) ?_
            refine lv_icmp_eq (tgt := 91) hx hb dX0_findTwoTries_64 (by decide) (fun c11 => ?_) (fun c11 => ?_)
            · rw [if_pos c11] at hR
              refine lv_aload_n hx hb dX0_findTwoTries_91 rfl (lv_at hl 0 rfl) ?_
              refine gX0_best X w lfX0_70 dX0_findTwoTries_92 ?_
              obtain ⟨v12, ev12, hR⟩ := lt_e hR
              refine nm_i ev12 ?_
              refine lv_istore_n (lv' := [(1, .int v12), (0, .ref (ad 29)), (2, .int x2), (3, .int x3), (4, .int x4)]) hx hb dX0_findTwoTries_95 rfl hl (by decide) rfl (fun ls hl => ?_)
              refine lv_aload_n hx hb dX0_findTwoTries_96 rfl (lv_at hl 1 rfl) ?_
              refine gX0_bestRow X w lfX0_91 dX0_findTwoTries_97 ?_
              obtain ⟨v13, ev13, hR⟩ := lt_e hR
              refine nm_i ev13 ?_
              refine lv_istore_n (lv' := [(2, .int v13), (1, .int v12), (0, .ref (ad 29)), (3, .int x3), (4, .int x4)]) hx hb dX0_findTwoTries_100 rfl hl (by decide) rfl (fun ls hl => ?_)
              obtain ⟨v14, ev14, hR⟩ := lt_e hR
              refine lv_iinc (v := v14) (lv' := [(4, .int v14), (2, .int v13), (1, .int v12), (0, .ref (ad 29)), (3, .int x3)]) hx hb dX0_findTwoTries_101 hl (k := 4) rfl (by rw [ev14]; rfl) (by decide) rfl (fun ls hl => ?_)
              refine lv_goto (tgt := 25) hx hb dX0_findTwoTries_104 (by decide) ?_
              exact ih v12 v13 x3 v14 S10 hR _ _ _ w (lv_sub hl [3, 2, 1, 4, 0] rfl)
            · rw [if_neg c11] at hR
              refine lv_aload_n hx hb dX0_findTwoTries_67 rfl (lv_at hl 0 rfl) ?_
              refine gX0_best X w lfX0_70 dX0_findTwoTries_68 ?_
              refine lv_iload_n hx hb dX0_findTwoTries_71 rfl (lv_at hl 1 rfl) ?_
              refine lv_icmp_gt (tgt := 91) hx hb dX0_findTwoTries_72 (by decide) (fun c15 => ?_) (fun c15 => ?_)
              · rw [if_pos c15] at hR
                refine lv_aload_n hx hb dX0_findTwoTries_91 rfl (lv_at hl 0 rfl) ?_
                refine gX0_best X w lfX0_70 dX0_findTwoTries_92 ?_
                obtain ⟨v16, ev16, hR⟩ := lt_e hR
                refine nm_i ev16 ?_
                refine lv_istore_n (lv' := [(1, .int v16), (0, .ref (ad 29)), (2, .int x2), (3, .int x3), (4, .int x4)]) hx hb dX0_findTwoTries_95 rfl hl (by decide) rfl (fun ls hl => ?_)
                refine lv_aload_n hx hb dX0_findTwoTries_96 rfl (lv_at hl 1 rfl) ?_
                refine gX0_bestRow X w lfX0_91 dX0_findTwoTries_97 ?_
                obtain ⟨v17, ev17, hR⟩ := lt_e hR
                refine nm_i ev17 ?_
                refine lv_istore_n (lv' := [(2, .int v17), (1, .int v16), (0, .ref (ad 29)), (3, .int x3), (4, .int x4)]) hx hb dX0_findTwoTries_100 rfl hl (by decide) rfl (fun ls hl => ?_)
                obtain ⟨v18, ev18, hR⟩ := lt_e hR
                refine lv_iinc (v := v18) (lv' := [(4, .int v18), (2, .int v17), (1, .int v16), (0, .ref (ad 29)), (3, .int x3)]) hx hb dX0_findTwoTries_101 hl (k := 4) rfl (by rw [ev18]; rfl) (by decide) rfl (fun ls hl => ?_)
                refine lv_goto (tgt := 25) hx hb dX0_findTwoTries_104 (by decide) ?_
                exact ih v16 v17 x3 v18 S10 hR _ _ _ w (lv_sub hl [3, 2, 1, 4, 0] rfl)
              · rw [if_neg c15] at hR
                refine lv_aload_n hx hb dX0_findTwoTries_75 rfl (lv_at hl 0 rfl) ?_
                refine gX0_best X w lfX0_70 dX0_findTwoTries_76 ?_
                refine lv_iload_n hx hb dX0_findTwoTries_79 rfl (lv_at hl 1 rfl) ?_
                refine lv_icmp_ne (tgt := 101) hx hb dX0_findTwoTries_80 (by decide) (fun c19 => ?_) (fun c19 => ?_)
                · rw [if_neg c19] at hR
                  obtain ⟨v20, ev20, hR⟩ := lt_e hR
                  refine lv_iinc (v := v20) (lv' := [(4, .int v20), (0, .ref (ad 29)), (1, .int x1), (2, .int x2), (3, .int x3)]) hx hb dX0_findTwoTries_101 hl (k := 4) rfl (by rw [ev20]; rfl) (by decide) rfl (fun ls hl => ?_)
                  refine lv_goto (tgt := 25) hx hb dX0_findTwoTries_104 (by decide) ?_
                  exact ih x1 x2 x3 v20 S10 hR _ _ _ w (lv_sub hl [1, 2, 3, 4, 0] rfl)
                · rw [if_pos c19] at hR
                  refine lv_aload_n hx hb dX0_findTwoTries_83 rfl (lv_at hl 0 rfl) ?_
                  refine gX0_bestRow X w lfX0_91 dX0_findTwoTries_84 ?_
                  refine lv_iload_n hx hb dX0_findTwoTries_87 rfl (lv_at hl 2 rfl) ?_
                  refine lv_icmp_ge (tgt := 101) hx hb dX0_findTwoTries_88 (by decide) (fun c21 => ?_) (fun c21 => ?_)
                  · rw [if_pos c21] at hR
                    obtain ⟨v22, ev22, hR⟩ := lt_e hR
                    refine lv_iinc (v := v22) (lv' := [(4, .int v22), (0, .ref (ad 29)), (1, .int x1), (2, .int x2), (3, .int x3)]) hx hb dX0_findTwoTries_101 hl (k := 4) rfl (by rw [ev22]; rfl) (by decide) rfl (fun ls hl => ?_)
                    refine lv_goto (tgt := 25) hx hb dX0_findTwoTries_104 (by decide) ?_
                    exact ih x1 x2 x3 v22 S10 hR _ _ _ w (lv_sub hl [1, 2, 3, 4, 0] rfl)
                  · rw [if_neg c21] at hR
                    refine lv_aload_n hx hb dX0_findTwoTries_91 rfl (lv_at hl 0 rfl) ?_
                    refine gX0_best X w lfX0_70 dX0_findTwoTries_92 ?_
                    obtain ⟨v23, ev23, hR⟩ := lt_e hR
                    refine nm_i ev23 ?_
                    refine lv_istore_n (lv' := [(1, .int v23), (0, .ref (ad 29)), (2, .int x2), (3, .int x3), (4, .int x4)]) hx hb dX0_findTwoTries_95 rfl hl (by decide) rfl (fun ls hl => ?_)
                    refine lv_aload_n hx hb dX0_findTwoTries_96 rfl (lv_at hl 1 rfl) ?_
                    refine gX0_bestRow X w lfX0_91 dX0_findTwoTries_97 ?_
                    obtain ⟨v24, ev24, hR⟩ := lt_e hR
                    refine nm_i ev24 ?_
                    refine lv_istore_n (lv' := [(2, .int v24), (1, .int v23), (0, .ref (ad 29)), (3, .int x3), (4, .int x4)]) hx hb dX0_findTwoTries_100 rfl hl (by decide) rfl (fun ls hl => ?_)
                    obtain ⟨v25, ev25, hR⟩ := lt_e hR
                    refine lv_iinc (v := v25) (lv' := [(4, .int v25), (2, .int v24), (1, .int v23), (0, .ref (ad 29)), (3, .int x3)]) hx hb dX0_findTwoTries_101 hl (k := 4) rfl (by rw [ev25]; rfl) (by decide) rfl (fun ls hl => ?_)
                    refine lv_goto (tgt := 25) hx hb dX0_findTwoTries_104 (by decide) ?_
                    exact ih v23 v24 x3 v25 S10 hR _ _ _ w (lv_sub hl [3, 2, 1, 4, 0] rfl)
  have L6 : ∀ (n : Nat), ∀ (x1 : Int32) (x2 : Int32) (x3 : Int32) (S : SS), fX0_findTwoTries_l6 N n x1 x2 x3 S = some S' → WAT p l ev ({ frames := 6, cells := 0, slots := 0, locals := 149 } : Room) s m args below meth c QQ 5 D dA ad t1 t2 S T o 6 [(0, .ref (ad 29)), (1, .int x1), (2, .int x2), (3, .int x3)] [] := by
    intro n
    induction n with
    | zero =>
      intro x1 x2 x3 S hR
      exact nomatch hR
    | succ n ih =>
      intro x1 x2 x3 S hR H locs ls w hl
      rw [fX0_findTwoTries_l6] at hR
      refine lv_iload_n hx hb dX0_findTwoTries_6 rfl (lv_at hl 3 rfl) ?_
      refine lv_aload_n hx hb dX0_findTwoTries_7 rfl (lv_at hl 0 rfl) ?_
      refine gX0_now X w lfX0_42 dX0_findTwoTries_8 ?_
      refine gX8_ends (Or.inl rfl) X w lfX0_49 dX0_findTwoTries_11 ?_
      refine lv_icmp_ge (tgt := 113) hx hb dX0_findTwoTries_14 (by decide) (fun c1 => ?_) (fun c1 => ?_)
      · rw [if_pos c1] at hR
        refine lv_aload_n hx hb dX0_findTwoTries_113 rfl (lv_at hl 0 rfl) ?_
        refine lv_iload_n hx hb dX0_findTwoTries_114 rfl (lv_at hl 1 rfl) ?_
        obtain ⟨S2, eS2, hR⟩ := lt_e hR
        refine pX0_best X w lfX0_70 dX0_findTwoTries_115 (fun H locs w => ?_)
        rw [← eS2] at w
        refine lv_aload_n hx hb dX0_findTwoTries_118 rfl (lv_at hl 0 rfl) ?_
        refine lv_iload_n hx hb dX0_findTwoTries_119 rfl (lv_at hl 2 rfl) ?_
        obtain ⟨S3, eS3, hR⟩ := lt_e hR
        refine pX0_bestRow X w lfX0_91 dX0_findTwoTries_120 (fun H locs w => ?_)
        rw [← eS3] at w
        rw [hQ]
        exact rt_v X hr hlk w hsz (lf1 hR) rfl dX0_findTwoTries_123
      · rw [if_neg c1] at hR
        refine lv_iload_n hx hb dX0_findTwoTries_17 rfl (lv_at hl 1 rfl) ?_
        refine lv_iconst (v := 2) hx hb dX0_findTwoTries_18 (by decide) ?_
        refine lv_icmp_ge (tgt := 113) hx hb dX0_findTwoTries_19 (by decide) (fun c4 => ?_) (fun c4 => ?_)
        · rw [if_pos c4] at hR
          refine lv_aload_n hx hb dX0_findTwoTries_113 rfl (lv_at hl 0 rfl) ?_
          refine lv_iload_n hx hb dX0_findTwoTries_114 rfl (lv_at hl 1 rfl) ?_
          obtain ⟨S5, eS5, hR⟩ := lt_e hR
          refine pX0_best X w lfX0_70 dX0_findTwoTries_115 (fun H locs w => ?_)
          rw [← eS5] at w
          refine lv_aload_n hx hb dX0_findTwoTries_118 rfl (lv_at hl 0 rfl) ?_
          refine lv_iload_n hx hb dX0_findTwoTries_119 rfl (lv_at hl 2 rfl) ?_
          obtain ⟨S6, eS6, hR⟩ := lt_e hR
          refine pX0_bestRow X w lfX0_91 dX0_findTwoTries_120 (fun H locs w => ?_)
          rw [← eS6] at w
          rw [hQ]
          exact rt_v X hr hlk w hsz (lf1 hR) rfl dX0_findTwoTries_123
        · rw [if_neg c4] at hR
          refine lv_iconst (v := 0) hx hb dX0_findTwoTries_22 (by decide) ?_
          refine lv_istore (lv' := [(4, .int 0), (0, .ref (ad 29)), (1, .int x1), (2, .int x2), (3, .int x3)]) hx hb dX0_findTwoTries_23 hl (by decide) rfl (fun ls hl => ?_)
          exact L25 _ ih N x1 x2 x3 0 S hR _ _ _ w (lv_sub hl [1, 2, 3, 4, 0] rfl)
  have hl : lv_has ls 5 [(0, .ref (ad 29))] := hl
  unfold fX0_findTwoTries at hR
  refine lv_iconst (v := 0) hx hb dX0_findTwoTries_0 (by decide) ?_
  refine lv_istore_n (lv' := [(1, .int 0), (0, .ref (ad 29))]) hx hb dX0_findTwoTries_1 rfl hl (by decide) rfl (fun ls hl => ?_)
  refine lv_iconst (v := -1) hx hb dX0_findTwoTries_2 (by decide) ?_
  obtain ⟨v1, ev1, hR⟩ := lt_e hR
  refine nm_i ev1 ?_
  refine lv_istore_n (lv' := [(2, .int v1), (1, .int 0), (0, .ref (ad 29))]) hx hb dX0_findTwoTries_3 rfl hl (by decide) rfl (fun ls hl => ?_)
  refine lv_iconst (v := 0) hx hb dX0_findTwoTries_4 (by decide) ?_
  refine lv_istore_n (lv' := [(3, .int 0), (2, .int v1), (1, .int 0), (0, .ref (ad 29))]) hx hb dX0_findTwoTries_5 rfl hl (by decide) rfl (fun ls hl => ?_)
  exact L6 N 0 v1 0 S hR _ _ _ w (lv_sub hl [3, 2, 1, 0] rfl)
/- LooseEnds$Advice.layIn(III)I -/
def fX0_layIn (N : Nat) (p0 : Int32) (p1 : Int32) (p2 : Int32) : Option (Int32) := if p2 < ((ir p0 1000) + p1) then
  (some ((((p0 / 1000) + 1) * 1000) + p1))
  else
  (some (p0 + p1))
set_option maxHeartbeats 4000000 in
set_option maxRecDepth 100000 in
theorem kX0_layIn {l : Launch} {D : va_G} {dA : Nat → ClassId} {ad : Nat → Nat} {t1 t2 : Nat} {N : Nat} {S T : SS} {o : Nat → Int64} {p0 : Int32} {p1 : Int32} {p2 : Int32} {r : Int32} (hR : fX0_layIn N p0 p1 p2 = some r) : KI l D dA ad t1 t2 yX0_layIn cX0_layIn 3 .int { frames := 0, cells := 0, slots := 0, locals := 0 } [.int p0, .int p1, .int p2] S T o r S T := by
  intro sz
  refine en_ (plainFor_of_name (by decide)) (Nat.le_of_ble_eq_true rfl) ?_
  intro p ev s m args below meth c QQ hQ hsz X hr hlk w ls hl
  have hx := X.1
  have hb := X.2.1
  have hl : lv_has ls 3 [(0, .int p0), (1, .int p1), (2, .int p2)] := hl
  unfold fX0_layIn at hR
  refine lv_iload_n hx hb dX0_layIn_0 rfl (lv_at hl 0 rfl) ?_
  refine lv_sipush (v := 1000) hx hb dX0_layIn_1 (by decide) ?_
  refine lv_irem hx hb dX0_layIn_4 (by decide) ?_
  refine lv_iload_n hx hb dX0_layIn_5 rfl (lv_at hl 1 rfl) ?_
  refine lv_iadd hx hb dX0_layIn_6 ?_
  refine lv_iload_n hx hb dX0_layIn_7 rfl (lv_at hl 2 rfl) ?_
  refine lv_icmp_gt (tgt := 15) hx hb dX0_layIn_8 (by decide) (fun c1 => ?_) (fun c1 => ?_)
  · rw [if_pos c1] at hR
    refine lv_iload_n hx hb dX0_layIn_15 rfl (lv_at hl 0 rfl) ?_
    refine lv_sipush (v := 1000) hx hb dX0_layIn_16 (by decide) ?_
    refine lv_idiv hx hb dX0_layIn_19 (by decide) ?_
    refine lv_iconst (v := 1) hx hb dX0_layIn_20 (by decide) ?_
    refine lv_iadd hx hb dX0_layIn_21 ?_
    refine lv_sipush (v := 1000) hx hb dX0_layIn_22 (by decide) ?_
    refine lv_imul hx hb dX0_layIn_25 ?_
    refine lv_iload_n hx hb dX0_layIn_26 rfl (lv_at hl 1 rfl) ?_
    refine lv_iadd hx hb dX0_layIn_27 ?_
    rw [hQ]
    exact rt_i X hr hlk w hsz rfl rfl rfl (lf1 hR) dX0_layIn_28
  · rw [if_neg c1] at hR
    refine lv_iload_n hx hb dX0_layIn_11 rfl (lv_at hl 0 rfl) ?_
    refine lv_iload_n hx hb dX0_layIn_12 rfl (lv_at hl 1 rfl) ?_
    refine lv_iadd hx hb dX0_layIn_13 ?_
    rw [hQ]
    exact rt_i X hr hlk w hsz rfl rfl rfl (lf1 hR) dX0_layIn_14
/- LooseEnds$Advice.fewestFor(II)I -/
def fX0_fewestFor_l29 (N : Nat) (kc19 : Int32 → Int32 → Int32 → SS → Option (SS × Int32)) : Nat → Int32 → Int32 → Int32 → Int32 → SS → Option (SS × Int32)
  | 0, _, _, _, _, _ => none
  | n + 1, x1, x2, x3, x4, S => if x1 ≤ x4 then
  (lt (x3 + 1) fun v2 =>
  kc19 x1 x2 v2 S)
  else
  (lt (x3 ||| (sl 1 x4)) fun v3 =>
  if v3 = x3 then
  (lt (x4 + 1) fun v5 =>
  fX0_fewestFor_l29 N kc19 n x1 x2 x3 v5 S)
  else
  (ck (inb v3 128) <|
  ck (inb x3 128) <|
  ck (inb x4 7) <|
  bd (fX0_layIn N (ga S 38 x3) (ga S 39 x4) x2) fun r10 =>
  ck (inb v3 128) <|
  lt (pa S 38 v3 (mn (ga S 38 v3) r10)) fun S12 =>
  lt (x4 + 1) fun v13 =>
  fX0_fewestFor_l29 N kc19 n x1 x2 x3 v13 S12))
def fX0_fewestFor_l19 (N : Nat) : Nat → Int32 → Int32 → Int32 → SS → Option (SS × Int32)
  | 0, _, _, _, _ => none
  | n + 1, x1, x2, x3, S => if (sl 1 x1) ≤ x3 then
  (ck (inb ((sl 1 x1) - 1) 128) <|
  some (S, (ga S 38 ((sl 1 x1) - 1)) / 1000))
  else
  (fX0_fewestFor_l29 N (fX0_fewestFor_l19 N n) N x1 x2 x3 0 S)
def fX0_fewestFor (N : Nat) (S : SS) (p1 : Int32) (p2 : Int32) : Option (SS × Int32) := bd (fJ7_fill_53178 N S 38 8000) fun S2 =>
  lt (pa S2 38 0 p2) fun S3 =>
  fX0_fewestFor_l19 N N p1 p2 0 S3
set_option maxHeartbeats 4000000 in
set_option maxRecDepth 100000 in
theorem kX0_fewestFor {l : Launch} {D : va_G} {dA : Nat → ClassId} {ad : Nat → Nat} {t1 t2 : Nat} {N : Nat} {S T : SS} {o : Nat → Int64} {p1 : Int32} {p2 : Int32} {r : Int32} {S' : SS} (hR : fX0_fewestFor N S p1 p2 = some (S', r)) : KI l D dA ad t1 t2 yX0_fewestFor cX0_fewestFor 6 .int { frames := 1, cells := 0, slots := 0, locals := 23 } [.ref (ad 29), .int p1, .int p2] S T o r S' T := by
  intro sz
  refine en_ (plainFor_of_name (by decide)) (Nat.le_of_ble_eq_true rfl) ?_
  intro p ev s m args below meth c QQ hQ hsz X hr hlk w ls hl
  have hx := X.1
  have hb := X.2.1
  have L29 : ∀ (kc19 : Int32 → Int32 → Int32 → SS → Option (SS × Int32)) (_ : ∀ (x1 : Int32) (x2 : Int32) (x3 : Int32) (S : SS), kc19 x1 x2 x3 S = some (S', r) → WAT p l ev ({ frames := 1, cells := 0, slots := 0, locals := 23 } : Room) s m args below meth c QQ 6 D dA ad t1 t2 S T o 19 [(0, .ref (ad 29)), (1, .int x1), (2, .int x2), (3, .int x3)] []) (n : Nat), ∀ (x1 : Int32) (x2 : Int32) (x3 : Int32) (x4 : Int32) (S : SS), fX0_fewestFor_l29 N kc19 n x1 x2 x3 x4 S = some (S', r) → WAT p l ev ({ frames := 1, cells := 0, slots := 0, locals := 23 } : Room) s m args below meth c QQ 6 D dA ad t1 t2 S T o 29 [(0, .ref (ad 29)), (1, .int x1), (2, .int x2), (3, .int x3), (4, .int x4)] [] := by
    intro kc19 hk19 n
    induction n with
    | zero =>
      intro x1 x2 x3 x4 S hR
      exact nomatch hR
    | succ n ih =>
      intro x1 x2 x3 x4 S hR H locs ls w hl
      rw [fX0_fewestFor_l29] at hR
      refine lv_iload hx hb dX0_fewestFor_29 (lv_at hl 4 rfl) ?_
      refine lv_iload_n hx hb dX0_fewestFor_31 rfl (lv_at hl 1 rfl) ?_
      refine lv_icmp_ge (tgt := 89) hx hb dX0_fewestFor_32 (by decide) (fun c1 => ?_) (fun c1 => ?_)
      · rw [if_pos c1] at hR
        obtain ⟨v2, ev2, hR⟩ := lt_e hR
        refine lv_iinc (v := v2) (lv' := [(3, .int v2), (0, .ref (ad 29)), (1, .int x1), (2, .int x2), (4, .int x4)]) hx hb dX0_fewestFor_89 hl (k := 3) rfl (by rw [ev2]; rfl) (by decide) rfl (fun ls hl => ?_)
        refine lv_goto (tgt := 19) hx hb dX0_fewestFor_92 (by decide) ?_
        exact hk19 x1 x2 v2 S hR _ _ _ w (lv_sub hl [1, 2, 3, 0] rfl)
      · rw [if_neg c1] at hR
        refine lv_iload_n hx hb dX0_fewestFor_35 rfl (lv_at hl 3 rfl) ?_
        refine lv_iconst (v := 1) hx hb dX0_fewestFor_36 (by decide) ?_
        refine lv_iload hx hb dX0_fewestFor_37 (lv_at hl 4 rfl) ?_
        refine lv_ishl hx hb dX0_fewestFor_39 ?_
        refine lv_ior hx hb dX0_fewestFor_40 ?_
        obtain ⟨v3, ev3, hR⟩ := lt_e hR
        refine nm_i ev3 ?_
        refine lv_istore (lv' := [(5, .int v3), (0, .ref (ad 29)), (1, .int x1), (2, .int x2), (3, .int x3), (4, .int x4)]) hx hb dX0_fewestFor_41 hl (by decide) rfl (fun ls hl => ?_)
        refine lv_iload hx hb dX0_fewestFor_43 (lv_at hl 0 rfl) ?_
        refine lv_iload_n hx hb dX0_fewestFor_45 rfl (lv_at hl 4 rfl) ?_
        refine lv_icmp_eq (tgt := 83) hx hb dX0_fewestFor_46 (by decide) (fun c4 => ?_) (fun c4 => ?_)
        · rw [if_pos c4] at hR
          obtain ⟨v5, ev5, hR⟩ := lt_e hR
          refine lv_iinc (v := v5) (lv' := [(4, .int v5), (5, .int v3), (0, .ref (ad 29)), (1, .int x1), (2, .int x2), (3, .int x3)]) hx hb dX0_fewestFor_83 hl (k := 5) rfl (by rw [ev5]; rfl) (by decide) rfl (fun ls hl => ?_)
          refine lv_goto (tgt := 29) hx hb dX0_fewestFor_86 (by decide) ?_
          exact ih x1 x2 x3 v5 S hR _ _ _ w (lv_sub hl [2, 3, 4, 5, 0] rfl)
        · rw [if_neg c4] at hR
          refine lv_aload_n hx hb dX0_fewestFor_49 rfl (lv_at hl 1 rfl) ?_
          refine gX0_fills X w lfX0_28 dX0_fewestFor_50 ?_
          refine lv_iload hx hb dX0_fewestFor_53 (lv_at hl 0 rfl) ?_
          refine lv_aload_n hx hb dX0_fewestFor_55 rfl (lv_at hl 1 rfl) ?_
          refine gX0_fills X w lfX0_28 dX0_fewestFor_56 ?_
          refine lv_iload hx hb dX0_fewestFor_59 (lv_at hl 0 rfl) ?_
          obtain ⟨g6, hR⟩ := ck_e hR
          refine ialS (n := 128) rfl (by decide) X w rfl g6 dX0_fewestFor_61 ?_
          refine lv_aload_n hx hb dX0_fewestFor_62 rfl (lv_at hl 1 rfl) ?_
          refine gX0_fills X w lfX0_28 dX0_fewestFor_63 ?_
          refine lv_iload_n hx hb dX0_fewestFor_66 rfl (lv_at hl 4 rfl) ?_
          obtain ⟨g7, hR⟩ := ck_e hR
          refine ialS (n := 128) rfl (by decide) X w rfl g7 dX0_fewestFor_67 ?_
          refine lv_aload_n hx hb dX0_fewestFor_68 rfl (lv_at hl 1 rfl) ?_
          refine gX0_bundles X w lfX0_31 dX0_fewestFor_69 ?_
          refine lv_iload hx hb dX0_fewestFor_72 (lv_at hl 5 rfl) ?_
          obtain ⟨g8, hR⟩ := ck_e hR
          refine ialS (n := 7) rfl (by decide) X w rfl g8 dX0_fewestFor_74 ?_
          refine lv_iload_n hx hb dX0_fewestFor_75 rfl (lv_at hl 3 rfl) ?_
          obtain ⟨r10, h9, hR⟩ := bd_e hR
          refine cSi (As := [.int (ga S 38 x3), .int (ga S 39 x4), .int x2]) (rest := [.int (ga S 38 v3), .int v3, .ref (ad 38)]) X hl.1 w okX0_layIn lmX0_152 (kX0_layIn h9) ⟨Nat.le_of_ble_eq_true rfl, Nat.le_of_ble_eq_true rfl⟩ ⟨rfl, rfl⟩ ⟨Nat.zero_le _, Nat.zero_le _⟩ rfl rfl (Nat.le_of_ble_eq_true rfl) dX0_fewestFor_76 (fun H locs zr10 w => ?_)
          refine mnI X hl.1 lmX0_156 ⟨Nat.le_of_ble_eq_true rfl, Nat.le_of_ble_eq_true rfl⟩ ⟨Nat.zero_le _, Nat.zero_le _⟩ dX0_fewestFor_79 ?_
          obtain ⟨g11, hR⟩ := ck_e hR
          obtain ⟨S12, eS12, hR⟩ := lt_e hR
          refine iasS (n := 128) rfl (by decide) X w rfl g11 dX0_fewestFor_82 (fun H locs w => ?_)
          rw [← eS12] at w
          obtain ⟨v13, ev13, hR⟩ := lt_e hR
          refine lv_iinc (v := v13) (lv' := [(4, .int v13), (5, .int v3), (0, .ref (ad 29)), (1, .int x1), (2, .int x2), (3, .int x3)]) hx hb dX0_fewestFor_83 hl (k := 5) rfl (by rw [ev13]; rfl) (by decide) rfl (fun ls hl => ?_)
          refine lv_goto (tgt := 29) hx hb dX0_fewestFor_86 (by decide) ?_
          exact ih x1 x2 x3 v13 S12 hR _ _ _ w (lv_sub hl [2, 3, 4, 5, 0] rfl)
  have L19 : ∀ (n : Nat), ∀ (x1 : Int32) (x2 : Int32) (x3 : Int32) (S : SS), fX0_fewestFor_l19 N n x1 x2 x3 S = some (S', r) → WAT p l ev ({ frames := 1, cells := 0, slots := 0, locals := 23 } : Room) s m args below meth c QQ 6 D dA ad t1 t2 S T o 19 [(0, .ref (ad 29)), (1, .int x1), (2, .int x2), (3, .int x3)] [] := by
    intro n
    induction n with
    | zero =>
      intro x1 x2 x3 S hR
      exact nomatch hR
    | succ n ih =>
      intro x1 x2 x3 S hR H locs ls w hl
      rw [fX0_fewestFor_l19] at hR
      refine lv_iload_n hx hb dX0_fewestFor_19 rfl (lv_at hl 3 rfl) ?_
      refine lv_iconst (v := 1) hx hb dX0_fewestFor_20 (by decide) ?_
      refine lv_iload_n hx hb dX0_fewestFor_21 rfl (lv_at hl 1 rfl) ?_
      refine lv_ishl hx hb dX0_fewestFor_22 ?_
      refine lv_icmp_ge (tgt := 95) hx hb dX0_fewestFor_23 (by decide) (fun c1 => ?_) (fun c1 => ?_)
      · rw [if_pos c1] at hR
        refine lv_aload_n hx hb dX0_fewestFor_95 rfl (lv_at hl 0 rfl) ?_
        refine gX0_fills X w lfX0_28 dX0_fewestFor_96 ?_
        refine lv_iconst (v := 1) hx hb dX0_fewestFor_99 (by decide) ?_
        refine lv_iload_n hx hb dX0_fewestFor_100 rfl (lv_at hl 1 rfl) ?_
        refine lv_ishl hx hb dX0_fewestFor_101 ?_
        refine lv_iconst (v := 1) hx hb dX0_fewestFor_102 (by decide) ?_
        refine lv_isub hx hb dX0_fewestFor_103 ?_
        obtain ⟨g2, hR⟩ := ck_e hR
        refine ialS (n := 128) rfl (by decide) X w rfl g2 dX0_fewestFor_104 ?_
        refine lv_sipush (v := 1000) hx hb dX0_fewestFor_105 (by decide) ?_
        refine lv_idiv hx hb dX0_fewestFor_108 (by decide) ?_
        rw [hQ]
        exact rt_i X hr hlk w hsz rfl (lf2 hR).1 rfl (lf2 hR).2 dX0_fewestFor_109
      · rw [if_neg c1] at hR
        refine lv_iconst (v := 0) hx hb dX0_fewestFor_26 (by decide) ?_
        refine lv_istore (lv' := [(4, .int 0), (0, .ref (ad 29)), (1, .int x1), (2, .int x2), (3, .int x3)]) hx hb dX0_fewestFor_27 hl (by decide) rfl (fun ls hl => ?_)
        exact L29 _ ih N x1 x2 x3 0 S hR _ _ _ w (lv_sub hl [1, 2, 3, 4, 0] rfl)
  have hl : lv_has ls 6 [(0, .ref (ad 29)), (1, .int p1), (2, .int p2)] := hl
  unfold fX0_fewestFor at hR
  refine lv_aload_n hx hb dX0_fewestFor_0 rfl (lv_at hl 0 rfl) ?_
  refine gX0_fills X w lfX0_28 dX0_fewestFor_1 ?_
  refine lv_sipush (v := 8000) hx hb dX0_fewestFor_4 (by decide) ?_
  obtain ⟨S2, h1, hR⟩ := bd_e hR
  refine cSv (As := [.ref (ad 38), .int 8000]) (rest := []) X hl.1 w okJ7_fill_53178 lmX0_104 (kJ7_fill_53178 ⟨rfl, (by decide)⟩ h1) ⟨Nat.le_of_ble_eq_true rfl, Nat.le_of_ble_eq_true rfl⟩ ⟨rfl, rfl⟩ ⟨Nat.zero_le _, Nat.zero_le _⟩ rfl rfl (Nat.le_of_ble_eq_true rfl) dX0_fewestFor_7 (fun H locs w => ?_)
  refine lv_aload_n hx hb dX0_fewestFor_10 rfl (lv_at hl 0 rfl) ?_
  refine gX0_fills X w lfX0_28 dX0_fewestFor_11 ?_
  refine lv_iconst (v := 0) hx hb dX0_fewestFor_14 (by decide) ?_
  refine lv_iload_n hx hb dX0_fewestFor_15 rfl (lv_at hl 2 rfl) ?_
  obtain ⟨S3, eS3, hR⟩ := lt_e hR
  refine iasS (n := 128) rfl (by decide) X w rfl (by decide) dX0_fewestFor_16 (fun H locs w => ?_)
  rw [← eS3] at w
  refine lv_iconst (v := 0) hx hb dX0_fewestFor_17 (by decide) ?_
  refine lv_istore_n (lv' := [(3, .int 0), (0, .ref (ad 29)), (1, .int p1), (2, .int p2)]) hx hb dX0_fewestFor_18 rfl hl (by decide) rfl (fun ls hl => ?_)
  exact L19 N p1 p2 0 S3 hR _ _ _ w (lv_sub hl [1, 2, 3, 0] rfl)
/- LooseEnds$Advice.fewestBlankets(I)I -/
def fX0_fewestBlankets_l4 (N : Nat) : Nat → Int32 → Int32 → Int32 → SS → Option (SS × Int32)
  | 0, _, _, _, _ => none
  | n + 1, x1, x2, x3, S => if (gi S 18 4) ≤ x3 then
  (b2 (fX0_fewestFor N S x2 x1) fun S4 r3 =>
  some (S4, r3))
  else
  (bd (fX8_isSold N S 18 x3) fun r6 =>
  if r6 = 0 then
  (ck (inb x3 7) <|
  if (ga S 22 x3) = (-1) then
  (bd (fX8_taleOf N S 18 x3) fun r13 =>
  bd (fX8_lengthOf N S 18 r13) fun r15 =>
  ck (inb x2 7) <|
  lt (pa S 39 x2 r15) fun S17 =>
  ck (inb x2 7) <|
  if (ga S17 39 x2) ≤ x1 then
  (lt (x2 + 1) fun v20 =>
  lt (x3 + 1) fun v21 =>
  fX0_fewestBlankets_l4 N n x1 v20 v21 S17)
  else
  (some (S17, (-1))))
  else
  (lt (x3 + 1) fun v11 =>
  fX0_fewestBlankets_l4 N n x1 x2 v11 S))
  else
  (lt (x3 + 1) fun v8 =>
  fX0_fewestBlankets_l4 N n x1 x2 v8 S))
def fX0_fewestBlankets (N : Nat) (S : SS) (p1 : Int32) : Option (SS × Int32) := fX0_fewestBlankets_l4 N N p1 0 0 S
set_option maxHeartbeats 4000000 in
set_option maxRecDepth 100000 in
theorem kX0_fewestBlankets {l : Launch} {D : va_G} {dA : Nat → ClassId} {ad : Nat → Nat} {t1 t2 : Nat} {N : Nat} {S T : SS} {o : Nat → Int64} {p1 : Int32} {r : Int32} {S' : SS} (hR : fX0_fewestBlankets N S p1 = some (S', r)) : KI l D dA ad t1 t2 yX0_fewestBlankets cX0_fewestBlankets 4 .int { frames := 2, cells := 0, slots := 0, locals := 48 } [.ref (ad 29), .int p1] S T o r S' T := by
  intro sz
  refine en_ (plainFor_of_name (by decide)) (Nat.le_of_ble_eq_true rfl) ?_
  intro p ev s m args below meth c QQ hQ hsz X hr hlk w ls hl
  have hx := X.1
  have hb := X.2.1
  have L4 : ∀ (n : Nat), ∀ (x1 : Int32) (x2 : Int32) (x3 : Int32) (S : SS), fX0_fewestBlankets_l4 N n x1 x2 x3 S = some (S', r) → WAT p l ev ({ frames := 2, cells := 0, slots := 0, locals := 48 } : Room) s m args below meth c QQ 4 D dA ad t1 t2 S T o 4 [(0, .ref (ad 29)), (1, .int x1), (2, .int x2), (3, .int x3)] [] := by
    intro n
    induction n with
    | zero =>
      intro x1 x2 x3 S hR
      exact nomatch hR
    | succ n ih =>
      intro x1 x2 x3 S hR H locs ls w hl
      rw [fX0_fewestBlankets_l4] at hR
      refine lv_iload_n hx hb dX0_fewestBlankets_4 rfl (lv_at hl 3 rfl) ?_
      refine lv_aload_n hx hb dX0_fewestBlankets_5 rfl (lv_at hl 0 rfl) ?_
      refine gX0_now X w lfX0_42 dX0_fewestBlankets_6 ?_
      refine gX8_ends (Or.inl rfl) X w lfX0_49 dX0_fewestBlankets_9 ?_
      refine lv_icmp_ge (tgt := 81) hx hb dX0_fewestBlankets_12 (by decide) (fun c1 => ?_) (fun c1 => ?_)
      · rw [if_pos c1] at hR
        refine lv_aload_n hx hb dX0_fewestBlankets_81 rfl (lv_at hl 0 rfl) ?_
        refine lv_iload_n hx hb dX0_fewestBlankets_82 rfl (lv_at hl 2 rfl) ?_
        refine lv_iload_n hx hb dX0_fewestBlankets_83 rfl (lv_at hl 1 rfl) ?_
        obtain ⟨S4, r3, h2, hR⟩ := b2_e hR
        refine cVi (k := 29) (As := [.int x2, .int x1]) (rest := []) X hl.1 w okX0_fewestFor obX0 rfl lmX0_148 (kX0_fewestFor h2) ⟨Nat.le_of_ble_eq_true rfl, Nat.le_of_ble_eq_true rfl⟩ ⟨rfl, rfl⟩ ⟨Nat.zero_le _, Nat.zero_le _⟩ rfl rfl (Nat.le_of_ble_eq_true rfl) dX0_fewestBlankets_84 (fun H locs zr3 w => ?_)
        rw [hQ]
        exact rt_i X hr hlk w hsz rfl (lf2 hR).1 rfl (lf2 hR).2 dX0_fewestBlankets_87
      · rw [if_neg c1] at hR
        refine lv_aload_n hx hb dX0_fewestBlankets_15 rfl (lv_at hl 0 rfl) ?_
        refine gX0_now X w lfX0_42 dX0_fewestBlankets_16 ?_
        refine lv_iload_n hx hb dX0_fewestBlankets_19 rfl (lv_at hl 3 rfl) ?_
        obtain ⟨r6, h5, hR⟩ := bd_e hR
        refine cVi (k := 18) (As := [.int x3]) (rest := []) X hl.1 w okX8_isSold (obX8 (Or.inl rfl)) rfl lmX0_84 (kX8_isSold (Or.inl rfl) h5) ⟨Nat.le_of_ble_eq_true rfl, Nat.le_of_ble_eq_true rfl⟩ ⟨rfl, rfl⟩ ⟨Nat.zero_le _, Nat.zero_le _⟩ rfl rfl (Nat.le_of_ble_eq_true rfl) dX0_fewestBlankets_20 (fun H locs zr6 w => ?_)
        refine lv_if_ne (tgt := 75) hx hb dX0_fewestBlankets_23 (by decide) (fun c7 => ?_) (fun c7 => ?_)
        · rw [if_neg c7] at hR
          obtain ⟨v8, ev8, hR⟩ := lt_e hR
          refine lv_iinc (v := v8) (lv' := [(3, .int v8), (0, .ref (ad 29)), (1, .int x1), (2, .int x2)]) hx hb dX0_fewestBlankets_75 hl (k := 3) rfl (by rw [ev8]; rfl) (by decide) rfl (fun ls hl => ?_)
          refine lv_goto (tgt := 4) hx hb dX0_fewestBlankets_78 (by decide) ?_
          exact ih x1 x2 v8 S hR _ _ _ w (lv_sub hl [1, 2, 3, 0] rfl)
        · rw [if_pos c7] at hR
          refine lv_aload_n hx hb dX0_fewestBlankets_26 rfl (lv_at hl 0 rfl) ?_
          refine gX0_now X w lfX0_42 dX0_fewestBlankets_27 ?_
          refine gX8_ahead (Or.inl rfl) X w lfX0_88 dX0_fewestBlankets_30 ?_
          refine lv_iload_n hx hb dX0_fewestBlankets_33 rfl (lv_at hl 3 rfl) ?_
          obtain ⟨g9, hR⟩ := ck_e hR
          refine ialS (n := 7) rfl (by decide) X w rfl g9 dX0_fewestBlankets_34 ?_
          refine lv_iconst (v := -1) hx hb dX0_fewestBlankets_35 (by decide) ?_
          refine lv_icmp_ne (tgt := 75) hx hb dX0_fewestBlankets_36 (by decide) (fun c10 => ?_) (fun c10 => ?_)
          · rw [if_neg c10] at hR
            obtain ⟨v11, ev11, hR⟩ := lt_e hR
            refine lv_iinc (v := v11) (lv' := [(3, .int v11), (0, .ref (ad 29)), (1, .int x1), (2, .int x2)]) hx hb dX0_fewestBlankets_75 hl (k := 3) rfl (by rw [ev11]; rfl) (by decide) rfl (fun ls hl => ?_)
            refine lv_goto (tgt := 4) hx hb dX0_fewestBlankets_78 (by decide) ?_
            exact ih x1 x2 v11 S hR _ _ _ w (lv_sub hl [1, 2, 3, 0] rfl)
          · rw [if_pos c10] at hR
            refine lv_aload_n hx hb dX0_fewestBlankets_39 rfl (lv_at hl 0 rfl) ?_
            refine gX0_bundles X w lfX0_31 dX0_fewestBlankets_40 ?_
            refine lv_iload_n hx hb dX0_fewestBlankets_43 rfl (lv_at hl 2 rfl) ?_
            refine lv_aload_n hx hb dX0_fewestBlankets_44 rfl (lv_at hl 0 rfl) ?_
            refine gX0_now X w lfX0_42 dX0_fewestBlankets_45 ?_
            refine lv_aload_n hx hb dX0_fewestBlankets_48 rfl (lv_at hl 0 rfl) ?_
            refine gX0_now X w lfX0_42 dX0_fewestBlankets_49 ?_
            refine lv_iload_n hx hb dX0_fewestBlankets_52 rfl (lv_at hl 3 rfl) ?_
            obtain ⟨r13, h12, hR⟩ := bd_e hR
            refine cVi (k := 18) (As := [.int x3]) (rest := [.ref (ad 18), .int x2, .ref (ad 39)]) X hl.1 w okX8_taleOf (obX8 (Or.inl rfl)) rfl lmX0_145 (kX8_taleOf (Or.inl rfl) h12) ⟨Nat.le_of_ble_eq_true rfl, Nat.le_of_ble_eq_true rfl⟩ ⟨rfl, rfl⟩ ⟨Nat.zero_le _, Nat.zero_le _⟩ rfl rfl (Nat.le_of_ble_eq_true rfl) dX0_fewestBlankets_53 (fun H locs zr13 w => ?_)
            obtain ⟨r15, h14, hR⟩ := bd_e hR
            refine cVi (k := 18) (As := [.int r13]) (rest := [.int x2, .ref (ad 39)]) X hl.1 w okX8_lengthOf (obX8 (Or.inl rfl)) rfl lmX0_124 (kX8_lengthOf (Or.inl rfl) h14) ⟨Nat.le_of_ble_eq_true rfl, Nat.le_of_ble_eq_true rfl⟩ ⟨rfl, rfl⟩ ⟨Nat.zero_le _, Nat.zero_le _⟩ rfl rfl (Nat.le_of_ble_eq_true rfl) dX0_fewestBlankets_56 (fun H locs zr15 w => ?_)
            obtain ⟨g16, hR⟩ := ck_e hR
            obtain ⟨S17, eS17, hR⟩ := lt_e hR
            refine iasS (n := 7) rfl (by decide) X w rfl g16 dX0_fewestBlankets_59 (fun H locs w => ?_)
            rw [← eS17] at w
            refine lv_aload_n hx hb dX0_fewestBlankets_60 rfl (lv_at hl 0 rfl) ?_
            refine gX0_bundles X w lfX0_31 dX0_fewestBlankets_61 ?_
            refine lv_iload_n hx hb dX0_fewestBlankets_64 rfl (lv_at hl 2 rfl) ?_
            obtain ⟨g18, hR⟩ := ck_e hR
            refine ialS (n := 7) rfl (by decide) X w rfl g18 dX0_fewestBlankets_65 ?_
            refine lv_iload_n hx hb dX0_fewestBlankets_66 rfl (lv_at hl 1 rfl) ?_
            refine lv_icmp_le (tgt := 72) hx hb dX0_fewestBlankets_67 (by decide) (fun c19 => ?_) (fun c19 => ?_)
            · rw [if_pos c19] at hR
              obtain ⟨v20, ev20, hR⟩ := lt_e hR
              refine lv_iinc (v := v20) (lv' := [(2, .int v20), (0, .ref (ad 29)), (1, .int x1), (3, .int x3)]) hx hb dX0_fewestBlankets_72 hl (k := 2) rfl (by rw [ev20]; rfl) (by decide) rfl (fun ls hl => ?_)
              obtain ⟨v21, ev21, hR⟩ := lt_e hR
              refine lv_iinc (v := v21) (lv' := [(3, .int v21), (2, .int v20), (0, .ref (ad 29)), (1, .int x1)]) hx hb dX0_fewestBlankets_75 hl (k := 3) rfl (by rw [ev21]; rfl) (by decide) rfl (fun ls hl => ?_)
              refine lv_goto (tgt := 4) hx hb dX0_fewestBlankets_78 (by decide) ?_
              exact ih x1 v20 v21 S17 hR _ _ _ w (lv_sub hl [2, 3, 1, 0] rfl)
            · rw [if_neg c19] at hR
              refine lv_iconst (v := -1) hx hb dX0_fewestBlankets_70 (by decide) ?_
              rw [hQ]
              exact rt_i X hr hlk w hsz rfl (lf2 hR).1 rfl (lf2 hR).2 dX0_fewestBlankets_71
  have hl : lv_has ls 4 [(0, .ref (ad 29)), (1, .int p1)] := hl
  unfold fX0_fewestBlankets at hR
  refine lv_iconst (v := 0) hx hb dX0_fewestBlankets_0 (by decide) ?_
  refine lv_istore_n (lv' := [(2, .int 0), (0, .ref (ad 29)), (1, .int p1)]) hx hb dX0_fewestBlankets_1 rfl hl (by decide) rfl (fun ls hl => ?_)
  refine lv_iconst (v := 0) hx hb dX0_fewestBlankets_2 (by decide) ?_
  refine lv_istore_n (lv' := [(3, .int 0), (2, .int 0), (0, .ref (ad 29)), (1, .int p1)]) hx hb dX0_fewestBlankets_3 rfl hl (by decide) rfl (fun ls hl => ?_)
  exact L4 N p1 0 0 S hR _ _ _ w (lv_sub hl [2, 3, 1, 0] rfl)
/- LooseEnds$Advice.knottedParts(II)I -/
def fX0_knottedParts_j81 (N : Nat) (kc28 : Int32 → Int32 → Int64 → Int32 → Int32 → SS → Option (SS × Int32)) (x1 : Int32) (x2 : Int32) (x3 : Int64) (x5 : Int32) (x6 : Int32) (S : SS) : Option (SS × Int32) := bd (fX8_fadeBy N S 30 x1 (gi S 3 2)) fun S2 =>
  lt (x6 + 1) fun v3 =>
  kc28 x1 x2 x3 x5 v3 S2
def fX0_knottedParts_l28 (N : Nat) : Nat → Int32 → Int32 → Int64 → Int32 → Int32 → SS → Option (SS × Int32)
  | 0, _, _, _, _, _, _ => none
  | n + 1, x1, x2, x3, x5, x6, S => if (gi S 18 4) ≤ x6 then
  (some (S, (1000000000 - x3 : Int64).toInt32))
  else
  (bd (fX8_isOpen N S 18 x1 x6) fun r3 =>
  if r3 = 0 then
  (lt (x6 + 1) fun v5 =>
  fX0_knottedParts_l28 N n x1 x2 x3 x5 v5 S)
  else
  (b2 (fX10_goesWith N S 30 x1 x6 x5) fun S8 r7 =>
  if r7 = 0 then
  (fX0_knottedParts_j81 N (fX0_knottedParts_l28 N n) x1 x2 x3 x5 x6 S8)
  else
  (lt ((x3 * ((x2 : Int32).toInt64)) / 100) fun v10 =>
  fX0_knottedParts_j81 N (fX0_knottedParts_l28 N n) x1 x2 v10 x5 x6 S8)))
def fX0_knottedParts (N : Nat) (S : SS) (p1 : Int32) (p2 : Int32) : Option (SS × Int32) := bd (fX8_sizeOf N S 18 p1) fun r2 =>
  bd (fX8_copyFrom N S 30 18) fun S4 =>
  fX0_knottedParts_l28 N N p1 p2 1000000000 r2 0 S4
set_option maxHeartbeats 4000000 in
set_option maxRecDepth 100000 in
theorem kX0_knottedParts {l : Launch} {D : va_G} {dA : Nat → ClassId} {ad : Nat → Nat} {t1 t2 : Nat} {N : Nat} {S T : SS} {o : Nat → Int64} {p1 : Int32} {p2 : Int32} {r : Int32} {S' : SS} (hR : fX0_knottedParts N S p1 p2 = some (S', r)) : KI l D dA ad t1 t2 yX0_knottedParts cX0_knottedParts 7 .int { frames := 4, cells := 0, slots := 0, locals := 101 } [.ref (ad 29), .int p1, .int p2] S T o r S' T := by
  intro sz
  refine en_ (plainFor_of_name (by decide)) (Nat.le_of_ble_eq_true rfl) ?_
  intro p ev s m args below meth c QQ hQ hsz X hr hlk w ls hl
  have hx := X.1
  have hb := X.2.1
  have J81 : ∀ (kc28 : Int32 → Int32 → Int64 → Int32 → Int32 → SS → Option (SS × Int32)) (_ : ∀ (x1 : Int32) (x2 : Int32) (x3 : Int64) (x5 : Int32) (x6 : Int32) (S : SS), kc28 x1 x2 x3 x5 x6 S = some (S', r) → WAT p l ev ({ frames := 4, cells := 0, slots := 0, locals := 101 } : Room) s m args below meth c QQ 7 D dA ad t1 t2 S T o 28 [(0, .ref (ad 29)), (1, .int x1), (2, .int x2), (3, .long x3), (5, .int x5), (6, .int x6)] []), ∀ (x1 : Int32) (x2 : Int32) (x3 : Int64) (x5 : Int32) (x6 : Int32) (S : SS), fX0_knottedParts_j81 N kc28 x1 x2 x3 x5 x6 S = some (S', r) → WAT p l ev ({ frames := 4, cells := 0, slots := 0, locals := 101 } : Room) s m args below meth c QQ 7 D dA ad t1 t2 S T o 81 [(0, .ref (ad 29)), (1, .int x1), (2, .int x2), (3, .long x3), (5, .int x5), (6, .int x6)] [] := by
    intro kc28 hk28 x1 x2 x3 x5 x6 S hR H locs ls w hl
    unfold fX0_knottedParts_j81 at hR
    refine lv_aload_n hx hb dX0_knottedParts_81 rfl (lv_at hl 0 rfl) ?_
    refine gX0_trial X w lfX0_12 dX0_knottedParts_82 ?_
    refine lv_iload_n hx hb dX0_knottedParts_85 rfl (lv_at hl 1 rfl) ?_
    refine lv_aload_n hx hb dX0_knottedParts_86 rfl (lv_at hl 0 rfl) ?_
    refine gX0_mill X w lfX0_34 dX0_knottedParts_87 ?_
    refine gX5_fade (Or.inl rfl) X w lfX0_165 dX0_knottedParts_90 ?_
    obtain ⟨S2, h1, hR⟩ := bd_e hR
    refine cVv (k := 30) (As := [.int x1, .int (gi S 3 2)]) (rest := []) X hl.1 w okX8_fadeBy (obX8 (Or.inr rfl)) rfl lmX0_170 (kX8_fadeBy (Or.inr rfl) h1) ⟨Nat.le_of_ble_eq_true rfl, Nat.le_of_ble_eq_true rfl⟩ ⟨rfl, rfl⟩ ⟨Nat.zero_le _, Nat.zero_le _⟩ rfl rfl (Nat.le_of_ble_eq_true rfl) dX0_knottedParts_93 (fun H locs w => ?_)
    obtain ⟨v3, ev3, hR⟩ := lt_e hR
    refine lv_iinc (v := v3) (lv' := [(6, .int v3), (0, .ref (ad 29)), (1, .int x1), (2, .int x2), (3, .long x3), (5, .int x5)]) hx hb dX0_knottedParts_96 hl (k := 5) rfl (by rw [ev3]; rfl) (by decide) rfl (fun ls hl => ?_)
    refine lv_goto (tgt := 28) hx hb dX0_knottedParts_99 (by decide) ?_
    exact hk28 x1 x2 x3 x5 v3 S2 hR _ _ _ w (lv_sub hl [1, 2, 3, 4, 5, 0] rfl)
  have L28 : ∀ (n : Nat), ∀ (x1 : Int32) (x2 : Int32) (x3 : Int64) (x5 : Int32) (x6 : Int32) (S : SS), fX0_knottedParts_l28 N n x1 x2 x3 x5 x6 S = some (S', r) → WAT p l ev ({ frames := 4, cells := 0, slots := 0, locals := 101 } : Room) s m args below meth c QQ 7 D dA ad t1 t2 S T o 28 [(0, .ref (ad 29)), (1, .int x1), (2, .int x2), (3, .long x3), (5, .int x5), (6, .int x6)] [] := by
    intro n
    induction n with
    | zero =>
      intro x1 x2 x3 x5 x6 S hR
      exact nomatch hR
    | succ n ih =>
      intro x1 x2 x3 x5 x6 S hR H locs ls w hl
      rw [fX0_knottedParts_l28] at hR
      refine lv_iload hx hb dX0_knottedParts_28 (lv_at hl 5 rfl) ?_
      refine lv_aload_n hx hb dX0_knottedParts_30 rfl (lv_at hl 0 rfl) ?_
      refine gX0_now X w lfX0_42 dX0_knottedParts_31 ?_
      refine gX8_ends (Or.inl rfl) X w lfX0_49 dX0_knottedParts_34 ?_
      refine lv_icmp_ge (tgt := 102) hx hb dX0_knottedParts_37 (by decide) (fun c1 => ?_) (fun c1 => ?_)
      · rw [if_pos c1] at hR
        refine lv_ldc2 X.1 X.2.1 X.2.2.2.1 (X.2.2.2.2 _ lcX0_161) dX0_knottedParts_102 ?_
        refine lv_lload_n hx hb dX0_knottedParts_105 rfl (lv_at hl 3 rfl) ?_
        refine lv_lsub hx hb dX0_knottedParts_106 ?_
        refine lv_l2i hx hb dX0_knottedParts_107 rfl ?_
        rw [hQ]
        exact rt_i X hr hlk w hsz rfl (lf2 hR).1 rfl (lf2 hR).2 dX0_knottedParts_108
      · rw [if_neg c1] at hR
        refine lv_aload_n hx hb dX0_knottedParts_40 rfl (lv_at hl 0 rfl) ?_
        refine gX0_now X w lfX0_42 dX0_knottedParts_41 ?_
        refine lv_iload_n hx hb dX0_knottedParts_44 rfl (lv_at hl 1 rfl) ?_
        refine lv_iload hx hb dX0_knottedParts_45 (lv_at hl 5 rfl) ?_
        obtain ⟨r3, h2, hR⟩ := bd_e hR
        refine cVi (k := 18) (As := [.int x1, .int x6]) (rest := []) X hl.1 w okX8_isOpen (obX8 (Or.inl rfl)) rfl lmX0_53 (kX8_isOpen (Or.inl rfl) h2) ⟨Nat.le_of_ble_eq_true rfl, Nat.le_of_ble_eq_true rfl⟩ ⟨rfl, rfl⟩ ⟨Nat.zero_le _, Nat.zero_le _⟩ rfl rfl (Nat.le_of_ble_eq_true rfl) dX0_knottedParts_47 (fun H locs zr3 w => ?_)
        refine lv_if_eq (tgt := 96) hx hb dX0_knottedParts_50 (by decide) (fun c4 => ?_) (fun c4 => ?_)
        · rw [if_pos c4] at hR
          obtain ⟨v5, ev5, hR⟩ := lt_e hR
          refine lv_iinc (v := v5) (lv' := [(6, .int v5), (0, .ref (ad 29)), (1, .int x1), (2, .int x2), (3, .long x3), (5, .int x5)]) hx hb dX0_knottedParts_96 hl (k := 5) rfl (by rw [ev5]; rfl) (by decide) rfl (fun ls hl => ?_)
          refine lv_goto (tgt := 28) hx hb dX0_knottedParts_99 (by decide) ?_
          exact ih x1 x2 x3 x5 v5 S hR _ _ _ w (lv_sub hl [1, 2, 3, 4, 5, 0] rfl)
        · rw [if_neg c4] at hR
          refine lv_aload_n hx hb dX0_knottedParts_53 rfl (lv_at hl 0 rfl) ?_
          refine gX0_works X w lfX0_38 dX0_knottedParts_54 ?_
          refine lv_aload_n hx hb dX0_knottedParts_57 rfl (lv_at hl 0 rfl) ?_
          refine gX0_trial X w lfX0_12 dX0_knottedParts_58 ?_
          refine lv_iload_n hx hb dX0_knottedParts_61 rfl (lv_at hl 1 rfl) ?_
          refine lv_iload hx hb dX0_knottedParts_62 (lv_at hl 5 rfl) ?_
          refine lv_iload hx hb dX0_knottedParts_64 (lv_at hl 4 rfl) ?_
          obtain ⟨S8, r7, h6, hR⟩ := b2_e hR
          refine cVi (k := 28) (As := [.ref (ad 30), .int x1, .int x6, .int x5]) (rest := []) X hl.1 w okX10_goesWith obX10 rfl lmX0_57 (kX10_goesWith (Or.inr rfl) h6) ⟨Nat.le_of_ble_eq_true rfl, Nat.le_of_ble_eq_true rfl⟩ ⟨rfl, rfl⟩ ⟨Nat.zero_le _, Nat.zero_le _⟩ rfl rfl (Nat.le_of_ble_eq_true rfl) dX0_knottedParts_66 (fun H locs zr7 w => ?_)
          refine lv_if_eq (tgt := 81) hx hb dX0_knottedParts_69 (by decide) (fun c9 => ?_) (fun c9 => ?_)
          · rw [if_pos c9] at hR
            exact J81 _ ih x1 x2 x3 x5 x6 S8 hR _ _ _ w (lv_sub hl [0, 1, 2, 3, 4, 5] rfl)
          · rw [if_neg c9] at hR
            refine lv_lload_n hx hb dX0_knottedParts_72 rfl (lv_at hl 3 rfl) ?_
            refine lv_iload_n hx hb dX0_knottedParts_73 rfl (lv_at hl 2 rfl) ?_
            refine lv_i2l hx hb dX0_knottedParts_74 rfl ?_
            refine lv_lmul hx hb dX0_knottedParts_75 ?_
            refine lv_ldc2 X.1 X.2.1 X.2.2.2.1 (X.2.2.2.2 _ lcX0_163) dX0_knottedParts_76 ?_
            refine lv_ldiv hx hb dX0_knottedParts_79 (by decide) ?_
            obtain ⟨v10, ev10, hR⟩ := lt_e hR
            refine nm_l ev10 ?_
            refine lv_lstore_n (lv' := [(3, .long v10), (0, .ref (ad 29)), (1, .int x1), (2, .int x2), (5, .int x5), (6, .int x6)]) hx hb dX0_knottedParts_80 rfl hl (by decide) rfl (fun ls hl => ?_)
            exact J81 _ ih x1 x2 v10 x5 x6 S8 hR _ _ _ w (lv_sub hl [1, 2, 3, 0, 4, 5] rfl)
  have hl : lv_has ls 7 [(0, .ref (ad 29)), (1, .int p1), (2, .int p2)] := hl
  unfold fX0_knottedParts at hR
  refine lv_ldc2 X.1 X.2.1 X.2.2.2.1 (X.2.2.2.2 _ lcX0_161) dX0_knottedParts_0 ?_
  refine lv_lstore_n (lv' := [(3, .long 1000000000), (0, .ref (ad 29)), (1, .int p1), (2, .int p2)]) hx hb dX0_knottedParts_3 rfl hl (by decide) rfl (fun ls hl => ?_)
  refine lv_aload_n hx hb dX0_knottedParts_4 rfl (lv_at hl 1 rfl) ?_
  refine gX0_now X w lfX0_42 dX0_knottedParts_5 ?_
  refine lv_iload_n hx hb dX0_knottedParts_8 rfl (lv_at hl 2 rfl) ?_
  obtain ⟨r2, h1, hR⟩ := bd_e hR
  refine cVi (k := 18) (As := [.int p1]) (rest := []) X hl.1 w okX8_sizeOf (obX8 (Or.inl rfl)) rfl lmX0_45 (kX8_sizeOf (Or.inl rfl) h1) ⟨Nat.le_of_ble_eq_true rfl, Nat.le_of_ble_eq_true rfl⟩ ⟨rfl, rfl⟩ ⟨Nat.zero_le _, Nat.zero_le _⟩ rfl rfl (Nat.le_of_ble_eq_true rfl) dX0_knottedParts_9 (fun H locs zr2 w => ?_)
  refine lv_istore (lv' := [(5, .int r2), (3, .long 1000000000), (0, .ref (ad 29)), (1, .int p1), (2, .int p2)]) hx hb dX0_knottedParts_12 hl (by decide) rfl (fun ls hl => ?_)
  refine lv_aload_n hx hb dX0_knottedParts_14 rfl (lv_at hl 2 rfl) ?_
  refine gX0_trial X w lfX0_12 dX0_knottedParts_15 ?_
  refine lv_aload_n hx hb dX0_knottedParts_18 rfl (lv_at hl 2 rfl) ?_
  refine gX0_now X w lfX0_42 dX0_knottedParts_19 ?_
  obtain ⟨S4, h3, hR⟩ := bd_e hR
  refine cVv (k := 30) (As := [.ref (ad 18)]) (rest := []) X hl.1 w okX8_copyFrom (obX8 (Or.inr rfl)) rfl lmX0_63 (kX8_copyFrom (Or.inr rfl) (Or.inl rfl) h3) ⟨Nat.le_of_ble_eq_true rfl, Nat.le_of_ble_eq_true rfl⟩ ⟨rfl, rfl⟩ ⟨Nat.zero_le _, Nat.zero_le _⟩ rfl rfl (Nat.le_of_ble_eq_true rfl) dX0_knottedParts_22 (fun H locs w => ?_)
  refine lv_iconst (v := 0) hx hb dX0_knottedParts_25 (by decide) ?_
  refine lv_istore (lv' := [(6, .int 0), (5, .int r2), (3, .long 1000000000), (0, .ref (ad 29)), (1, .int p1), (2, .int p2)]) hx hb dX0_knottedParts_26 hl (by decide) rfl (fun ls hl => ?_)
  exact L28 N p1 p2 1000000000 r2 0 S4 hR _ _ _ w (lv_sub hl [3, 4, 5, 2, 1, 0] rfl)
/- LooseEnds$Advice.rackBits()I -/
def fX0_rackBits_l18 (N : Nat) : Nat → Int32 → Int32 → Int32 → SS → Option (SS × Int32)
  | 0, _, _, _, _ => none
  | n + 1, x1, x2, x3, S => if (gi S 18 4) ≤ x3 then
  (some (S, x2))
  else
  (if ((sr x1 x3) &&& 1) = 1 then
  (ck (inb x3 7) <|
  if (ga S 35 x3) = 0 then
  (lt (x2 ||| (sl 1 x3)) fun v7 =>
  lt (x3 + 1) fun v8 =>
  fX0_rackBits_l18 N n x1 v7 v8 S)
  else
  (lt (x3 + 1) fun v6 =>
  fX0_rackBits_l18 N n x1 x2 v6 S))
  else
  (lt (x3 + 1) fun v3 =>
  fX0_rackBits_l18 N n x1 x2 v3 S))
def fX0_rackBits (N : Nat) (S : SS) : Option (SS × Int32) := bd (fX8_looseBits N S 18) fun r2 =>
  bd (fX0_findFollowers N S r2 1) fun S4 =>
  fX0_rackBits_l18 N N r2 0 0 S4
set_option maxHeartbeats 4000000 in
set_option maxRecDepth 100000 in
theorem kX0_rackBits {l : Launch} {D : va_G} {dA : Nat → ClassId} {ad : Nat → Nat} {t1 t2 : Nat} {N : Nat} {S T : SS} {o : Nat → Int64} {r : Int32} {S' : SS} (hR : fX0_rackBits N S = some (S', r)) : KI l D dA ad t1 t2 yX0_rackBits cX0_rackBits 4 .int { frames := 5, cells := 0, slots := 0, locals := 126 } [.ref (ad 29)] S T o r S' T := by
  intro sz
  refine en_ (plainFor_of_name (by decide)) (Nat.le_of_ble_eq_true rfl) ?_
  intro p ev s m args below meth c QQ hQ hsz X hr hlk w ls hl
  have hx := X.1
  have hb := X.2.1
  have L18 : ∀ (n : Nat), ∀ (x1 : Int32) (x2 : Int32) (x3 : Int32) (S : SS), fX0_rackBits_l18 N n x1 x2 x3 S = some (S', r) → WAT p l ev ({ frames := 5, cells := 0, slots := 0, locals := 126 } : Room) s m args below meth c QQ 4 D dA ad t1 t2 S T o 18 [(0, .ref (ad 29)), (1, .int x1), (2, .int x2), (3, .int x3)] [] := by
    intro n
    induction n with
    | zero =>
      intro x1 x2 x3 S hR
      exact nomatch hR
    | succ n ih =>
      intro x1 x2 x3 S hR H locs ls w hl
      rw [fX0_rackBits_l18] at hR
      refine lv_iload_n hx hb dX0_rackBits_18 rfl (lv_at hl 3 rfl) ?_
      refine lv_aload_n hx hb dX0_rackBits_19 rfl (lv_at hl 0 rfl) ?_
      refine gX0_now X w lfX0_42 dX0_rackBits_20 ?_
      refine gX8_ends (Or.inl rfl) X w lfX0_49 dX0_rackBits_23 ?_
      refine lv_icmp_ge (tgt := 59) hx hb dX0_rackBits_26 (by decide) (fun c1 => ?_) (fun c1 => ?_)
      · rw [if_pos c1] at hR
        refine lv_iload_n hx hb dX0_rackBits_59 rfl (lv_at hl 2 rfl) ?_
        rw [hQ]
        exact rt_i X hr hlk w hsz rfl (lf2 hR).1 rfl (lf2 hR).2 dX0_rackBits_60
      · rw [if_neg c1] at hR
        refine lv_iload_n hx hb dX0_rackBits_29 rfl (lv_at hl 1 rfl) ?_
        refine lv_iload_n hx hb dX0_rackBits_30 rfl (lv_at hl 3 rfl) ?_
        refine lv_ishr hx hb dX0_rackBits_31 ?_
        refine lv_iconst (v := 1) hx hb dX0_rackBits_32 (by decide) ?_
        refine lv_iand hx hb dX0_rackBits_33 ?_
        refine lv_iconst (v := 1) hx hb dX0_rackBits_34 (by decide) ?_
        refine lv_icmp_ne (tgt := 53) hx hb dX0_rackBits_35 (by decide) (fun c2 => ?_) (fun c2 => ?_)
        · rw [if_neg c2] at hR
          obtain ⟨v3, ev3, hR⟩ := lt_e hR
          refine lv_iinc (v := v3) (lv' := [(3, .int v3), (0, .ref (ad 29)), (1, .int x1), (2, .int x2)]) hx hb dX0_rackBits_53 hl (k := 3) rfl (by rw [ev3]; rfl) (by decide) rfl (fun ls hl => ?_)
          refine lv_goto (tgt := 18) hx hb dX0_rackBits_56 (by decide) ?_
          exact ih x1 x2 v3 S hR _ _ _ w (lv_sub hl [1, 2, 3, 0] rfl)
        · rw [if_pos c2] at hR
          refine lv_aload_n hx hb dX0_rackBits_38 rfl (lv_at hl 0 rfl) ?_
          refine gX0_partners X w lfX0_18 dX0_rackBits_39 ?_
          refine lv_iload_n hx hb dX0_rackBits_42 rfl (lv_at hl 3 rfl) ?_
          obtain ⟨g4, hR⟩ := ck_e hR
          refine ialS (n := 7) rfl (by decide) X w rfl g4 dX0_rackBits_43 ?_
          refine lv_if_ne (tgt := 53) hx hb dX0_rackBits_44 (by decide) (fun c5 => ?_) (fun c5 => ?_)
          · rw [if_neg c5] at hR
            obtain ⟨v6, ev6, hR⟩ := lt_e hR
            refine lv_iinc (v := v6) (lv' := [(3, .int v6), (0, .ref (ad 29)), (1, .int x1), (2, .int x2)]) hx hb dX0_rackBits_53 hl (k := 3) rfl (by rw [ev6]; rfl) (by decide) rfl (fun ls hl => ?_)
            refine lv_goto (tgt := 18) hx hb dX0_rackBits_56 (by decide) ?_
            exact ih x1 x2 v6 S hR _ _ _ w (lv_sub hl [1, 2, 3, 0] rfl)
          · rw [if_pos c5] at hR
            refine lv_iload_n hx hb dX0_rackBits_47 rfl (lv_at hl 2 rfl) ?_
            refine lv_iconst (v := 1) hx hb dX0_rackBits_48 (by decide) ?_
            refine lv_iload_n hx hb dX0_rackBits_49 rfl (lv_at hl 3 rfl) ?_
            refine lv_ishl hx hb dX0_rackBits_50 ?_
            refine lv_ior hx hb dX0_rackBits_51 ?_
            obtain ⟨v7, ev7, hR⟩ := lt_e hR
            refine nm_i ev7 ?_
            refine lv_istore_n (lv' := [(2, .int v7), (0, .ref (ad 29)), (1, .int x1), (3, .int x3)]) hx hb dX0_rackBits_52 rfl hl (by decide) rfl (fun ls hl => ?_)
            obtain ⟨v8, ev8, hR⟩ := lt_e hR
            refine lv_iinc (v := v8) (lv' := [(3, .int v8), (2, .int v7), (0, .ref (ad 29)), (1, .int x1)]) hx hb dX0_rackBits_53 hl (k := 3) rfl (by rw [ev8]; rfl) (by decide) rfl (fun ls hl => ?_)
            refine lv_goto (tgt := 18) hx hb dX0_rackBits_56 (by decide) ?_
            exact ih x1 v7 v8 S hR _ _ _ w (lv_sub hl [2, 3, 1, 0] rfl)
  have hl : lv_has ls 4 [(0, .ref (ad 29))] := hl
  unfold fX0_rackBits at hR
  refine lv_aload_n hx hb dX0_rackBits_0 rfl (lv_at hl 0 rfl) ?_
  refine gX0_now X w lfX0_42 dX0_rackBits_1 ?_
  obtain ⟨r2, h1, hR⟩ := bd_e hR
  refine cVi (k := 18) (As := []) (rest := []) X hl.1 w okX8_looseBits (obX8 (Or.inl rfl)) rfl lmX0_101 (kX8_looseBits (Or.inl rfl) h1) ⟨Nat.le_of_ble_eq_true rfl, Nat.le_of_ble_eq_true rfl⟩ ⟨rfl, rfl⟩ ⟨Nat.zero_le _, Nat.zero_le _⟩ rfl rfl (Nat.le_of_ble_eq_true rfl) dX0_rackBits_4 (fun H locs zr2 w => ?_)
  refine lv_istore_n (lv' := [(1, .int r2), (0, .ref (ad 29))]) hx hb dX0_rackBits_7 rfl hl (by decide) rfl (fun ls hl => ?_)
  refine lv_aload_n hx hb dX0_rackBits_8 rfl (lv_at hl 1 rfl) ?_
  refine lv_iload_n hx hb dX0_rackBits_9 rfl (lv_at hl 0 rfl) ?_
  refine lv_iconst (v := 1) hx hb dX0_rackBits_10 (by decide) ?_
  obtain ⟨S4, h3, hR⟩ := bd_e hR
  refine cVv (k := 29) (As := [.int r2, .int 1]) (rest := []) X hl.1 w okX0_findFollowers obX0 rfl lmX0_110 (kX0_findFollowers h3) ⟨Nat.le_of_ble_eq_true rfl, Nat.le_of_ble_eq_true rfl⟩ ⟨rfl, rfl⟩ ⟨Nat.zero_le _, Nat.zero_le _⟩ rfl rfl (Nat.le_of_ble_eq_true rfl) dX0_rackBits_11 (fun H locs w => ?_)
  refine lv_iconst (v := 0) hx hb dX0_rackBits_14 (by decide) ?_
  refine lv_istore_n (lv' := [(2, .int 0), (1, .int r2), (0, .ref (ad 29))]) hx hb dX0_rackBits_15 rfl hl (by decide) rfl (fun ls hl => ?_)
  refine lv_iconst (v := 0) hx hb dX0_rackBits_16 (by decide) ?_
  refine lv_istore_n (lv' := [(3, .int 0), (2, .int 0), (1, .int r2), (0, .ref (ad 29))]) hx hb dX0_rackBits_17 rfl hl (by decide) rfl (fun ls hl => ?_)
  exact L18 N r2 0 0 S4 hR _ _ _ w (lv_sub hl [3, 2, 1, 0] rfl)
/- LooseEnds$Advice.isFirstOfTale(I)Z -/
def fX0_isFirstOfTale (N : Nat) (S : SS) (p1 : Int32) : Option (Int32) := bd (fX8_isSold N S 18 p1) fun r2 =>
  if r2 = 0 then
  (ck (inb p1 7) <|
  if (ga S 22 p1) = (-1) then
  (ck (inb p1 7) <|
  if (ga S 21 p1) = (-1) then
  (some 0)
  else
  (some 1))
  else
  (some 0))
  else
  (some 0)
set_option maxHeartbeats 4000000 in
set_option maxRecDepth 100000 in
theorem kX0_isFirstOfTale {l : Launch} {D : va_G} {dA : Nat → ClassId} {ad : Nat → Nat} {t1 t2 : Nat} {N : Nat} {S T : SS} {o : Nat → Int64} {p1 : Int32} {r : Int32} (hR : fX0_isFirstOfTale N S p1 = some r) : KI l D dA ad t1 t2 yX0_isFirstOfTale cX0_isFirstOfTale 2 .boolean { frames := 1, cells := 0, slots := 0, locals := 21 } [.ref (ad 29), .int p1] S T o r S T := by
  intro sz
  refine en_ (plainFor_of_name (by decide)) (Nat.le_of_ble_eq_true rfl) ?_
  intro p ev s m args below meth c QQ hQ hsz X hr hlk w ls hl
  have hx := X.1
  have hb := X.2.1
  have hl : lv_has ls 2 [(0, .ref (ad 29)), (1, .int p1)] := hl
  unfold fX0_isFirstOfTale at hR
  refine lv_aload_n hx hb dX0_isFirstOfTale_0 rfl (lv_at hl 0 rfl) ?_
  refine gX0_now X w lfX0_42 dX0_isFirstOfTale_1 ?_
  refine lv_iload_n hx hb dX0_isFirstOfTale_4 rfl (lv_at hl 1 rfl) ?_
  obtain ⟨r2, h1, hR⟩ := bd_e hR
  refine cVi (k := 18) (As := [.int p1]) (rest := []) X hl.1 w okX8_isSold (obX8 (Or.inl rfl)) rfl lmX0_84 (kX8_isSold (Or.inl rfl) h1) ⟨Nat.le_of_ble_eq_true rfl, Nat.le_of_ble_eq_true rfl⟩ ⟨rfl, rfl⟩ ⟨Nat.zero_le _, Nat.zero_le _⟩ rfl rfl (Nat.le_of_ble_eq_true rfl) dX0_isFirstOfTale_5 (fun H locs zr2 w => ?_)
  refine lv_if_ne (tgt := 41) hx hb dX0_isFirstOfTale_8 (by decide) (fun c3 => ?_) (fun c3 => ?_)
  · rw [if_neg c3] at hR
    refine lv_iconst (v := 0) hx hb dX0_isFirstOfTale_41 (by decide) ?_
    rw [hQ]
    exact rt_i X hr hlk w hsz rfl rfl rfl (lf1 hR) dX0_isFirstOfTale_42
  · rw [if_pos c3] at hR
    refine lv_aload_n hx hb dX0_isFirstOfTale_11 rfl (lv_at hl 0 rfl) ?_
    refine gX0_now X w lfX0_42 dX0_isFirstOfTale_12 ?_
    refine gX8_ahead (Or.inl rfl) X w lfX0_88 dX0_isFirstOfTale_15 ?_
    refine lv_iload_n hx hb dX0_isFirstOfTale_18 rfl (lv_at hl 1 rfl) ?_
    obtain ⟨g4, hR⟩ := ck_e hR
    refine ialS (n := 7) rfl (by decide) X w rfl g4 dX0_isFirstOfTale_19 ?_
    refine lv_iconst (v := -1) hx hb dX0_isFirstOfTale_20 (by decide) ?_
    refine lv_icmp_ne (tgt := 41) hx hb dX0_isFirstOfTale_21 (by decide) (fun c5 => ?_) (fun c5 => ?_)
    · rw [if_neg c5] at hR
      refine lv_iconst (v := 0) hx hb dX0_isFirstOfTale_41 (by decide) ?_
      rw [hQ]
      exact rt_i X hr hlk w hsz rfl rfl rfl (lf1 hR) dX0_isFirstOfTale_42
    · rw [if_pos c5] at hR
      refine lv_aload_n hx hb dX0_isFirstOfTale_24 rfl (lv_at hl 0 rfl) ?_
      refine gX0_now X w lfX0_42 dX0_isFirstOfTale_25 ?_
      refine gX8_behind (Or.inl rfl) X w lfX0_173 dX0_isFirstOfTale_28 ?_
      refine lv_iload_n hx hb dX0_isFirstOfTale_31 rfl (lv_at hl 1 rfl) ?_
      obtain ⟨g6, hR⟩ := ck_e hR
      refine ialS (n := 7) rfl (by decide) X w rfl g6 dX0_isFirstOfTale_32 ?_
      refine lv_iconst (v := -1) hx hb dX0_isFirstOfTale_33 (by decide) ?_
      refine lv_icmp_eq (tgt := 41) hx hb dX0_isFirstOfTale_34 (by decide) (fun c7 => ?_) (fun c7 => ?_)
      · rw [if_pos c7] at hR
        refine lv_iconst (v := 0) hx hb dX0_isFirstOfTale_41 (by decide) ?_
        rw [hQ]
        exact rt_i X hr hlk w hsz rfl rfl rfl (lf1 hR) dX0_isFirstOfTale_42
      · rw [if_neg c7] at hR
        refine lv_iconst (v := 1) hx hb dX0_isFirstOfTale_37 (by decide) ?_
        refine lv_goto (tgt := 42) hx hb dX0_isFirstOfTale_38 (by decide) ?_
        rw [hQ]
        exact rt_i X hr hlk w hsz rfl rfl rfl (lf1 hR) dX0_isFirstOfTale_42
/- LooseEnds$Advice.countTales()I -/
def fX0_countTales_l4 (N : Nat) : Nat → Int32 → Int32 → SS → Option (Int32)
  | 0, _, _, _ => none
  | n + 1, x1, x2, S => if (gi S 18 4) ≤ x2 then
  (some x1)
  else
  (bd (fX0_isFirstOfTale N S x2) fun r3 =>
  if r3 = 0 then
  (lt (x2 + 1) fun v5 =>
  fX0_countTales_l4 N n x1 v5 S)
  else
  (lt (x1 + 1) fun v6 =>
  lt (x2 + 1) fun v7 =>
  fX0_countTales_l4 N n v6 v7 S))
def fX0_countTales (N : Nat) (S : SS) : Option (Int32) := fX0_countTales_l4 N N 0 0 S
set_option maxHeartbeats 4000000 in
set_option maxRecDepth 100000 in
theorem kX0_countTales {l : Launch} {D : va_G} {dA : Nat → ClassId} {ad : Nat → Nat} {t1 t2 : Nat} {N : Nat} {S T : SS} {o : Nat → Int64} {r : Int32} (hR : fX0_countTales N S = some r) : KI l D dA ad t1 t2 yX0_countTales cX0_countTales 3 .int { frames := 2, cells := 0, slots := 0, locals := 42 } [.ref (ad 29)] S T o r S T := by
  intro sz
  refine en_ (plainFor_of_name (by decide)) (Nat.le_of_ble_eq_true rfl) ?_
  intro p ev s m args below meth c QQ hQ hsz X hr hlk w ls hl
  have hx := X.1
  have hb := X.2.1
  have L4 : ∀ (n : Nat), ∀ (x1 : Int32) (x2 : Int32), fX0_countTales_l4 N n x1 x2 S = some r → WAT p l ev ({ frames := 2, cells := 0, slots := 0, locals := 42 } : Room) s m args below meth c QQ 3 D dA ad t1 t2 S T o 4 [(0, .ref (ad 29)), (1, .int x1), (2, .int x2)] [] := by
    intro n
    induction n with
    | zero =>
      intro x1 x2 hR
      exact nomatch hR
    | succ n ih =>
      intro x1 x2 hR H locs ls w hl
      rw [fX0_countTales_l4] at hR
      refine lv_iload_n hx hb dX0_countTales_4 rfl (lv_at hl 2 rfl) ?_
      refine lv_aload_n hx hb dX0_countTales_5 rfl (lv_at hl 0 rfl) ?_
      refine gX0_now X w lfX0_42 dX0_countTales_6 ?_
      refine gX8_ends (Or.inl rfl) X w lfX0_49 dX0_countTales_9 ?_
      refine lv_icmp_ge (tgt := 32) hx hb dX0_countTales_12 (by decide) (fun c1 => ?_) (fun c1 => ?_)
      · rw [if_pos c1] at hR
        refine lv_iload_n hx hb dX0_countTales_32 rfl (lv_at hl 1 rfl) ?_
        rw [hQ]
        exact rt_i X hr hlk w hsz rfl rfl rfl (lf1 hR) dX0_countTales_33
      · rw [if_neg c1] at hR
        refine lv_aload_n hx hb dX0_countTales_15 rfl (lv_at hl 0 rfl) ?_
        refine lv_iload_n hx hb dX0_countTales_16 rfl (lv_at hl 2 rfl) ?_
        obtain ⟨r3, h2, hR⟩ := bd_e hR
        refine cVi (k := 29) (As := [.int x2]) (rest := []) X hl.1 w okX0_isFirstOfTale obX0 rfl lmX0_176 (kX0_isFirstOfTale h2) ⟨Nat.le_of_ble_eq_true rfl, Nat.le_of_ble_eq_true rfl⟩ ⟨rfl, rfl⟩ ⟨Nat.zero_le _, Nat.zero_le _⟩ rfl rfl (Nat.le_of_ble_eq_true rfl) dX0_countTales_17 (fun H locs zr3 w => ?_)
        refine lv_if_eq (tgt := 26) hx hb dX0_countTales_20 (by decide) (fun c4 => ?_) (fun c4 => ?_)
        · rw [if_pos c4] at hR
          obtain ⟨v5, ev5, hR⟩ := lt_e hR
          refine lv_iinc (v := v5) (lv' := [(2, .int v5), (0, .ref (ad 29)), (1, .int x1)]) hx hb dX0_countTales_26 hl (k := 2) rfl (by rw [ev5]; rfl) (by decide) rfl (fun ls hl => ?_)
          refine lv_goto (tgt := 4) hx hb dX0_countTales_29 (by decide) ?_
          exact ih x1 v5 hR _ _ _ w (lv_sub hl [1, 2, 0] rfl)
        · rw [if_neg c4] at hR
          obtain ⟨v6, ev6, hR⟩ := lt_e hR
          refine lv_iinc (v := v6) (lv' := [(1, .int v6), (0, .ref (ad 29)), (2, .int x2)]) hx hb dX0_countTales_23 hl (k := 1) rfl (by rw [ev6]; rfl) (by decide) rfl (fun ls hl => ?_)
          obtain ⟨v7, ev7, hR⟩ := lt_e hR
          refine lv_iinc (v := v7) (lv' := [(2, .int v7), (1, .int v6), (0, .ref (ad 29))]) hx hb dX0_countTales_26 hl (k := 2) rfl (by rw [ev7]; rfl) (by decide) rfl (fun ls hl => ?_)
          refine lv_goto (tgt := 4) hx hb dX0_countTales_29 (by decide) ?_
          exact ih v6 v7 hR _ _ _ w (lv_sub hl [2, 1, 0] rfl)
  have hl : lv_has ls 3 [(0, .ref (ad 29))] := hl
  unfold fX0_countTales at hR
  refine lv_iconst (v := 0) hx hb dX0_countTales_0 (by decide) ?_
  refine lv_istore_n (lv' := [(1, .int 0), (0, .ref (ad 29))]) hx hb dX0_countTales_1 rfl hl (by decide) rfl (fun ls hl => ?_)
  refine lv_iconst (v := 0) hx hb dX0_countTales_2 (by decide) ?_
  refine lv_istore_n (lv' := [(2, .int 0), (1, .int 0), (0, .ref (ad 29))]) hx hb dX0_countTales_3 rfl hl (by decide) rfl (fun ls hl => ?_)
  exact L4 N 0 0 hR _ _ _ w (lv_sub hl [2, 1, 0] rfl)
/- LooseEnds$State.priceOf(I)I -/
def fX8_priceOf (N : Nat) (S : SS) (k0 : Nat) (p1 : Int32) : Option (Int32) := bd (fX8_lengthOf N S k0 p1) fun r2 =>
  bd (fJ6_bitCount_0f7a4 N p1) fun r4 =>
  some ((r2 * r4) / 4)
set_option maxHeartbeats 4000000 in
set_option maxRecDepth 100000 in
theorem kX8_priceOf {l : Launch} {D : va_G} {dA : Nat → ClassId} {ad : Nat → Nat} {t1 t2 : Nat} {N : Nat} {k0 : Nat} (hk0 : k0 = 18 ∨ k0 = 30) {S T : SS} {o : Nat → Int64} {p1 : Int32} {r : Int32} (hR : fX8_priceOf N S k0 p1 = some r) : KI l D dA ad t1 t2 yX8_priceOf cX8_priceOf 2 .int { frames := 1, cells := 0, slots := 0, locals := 23 } [.ref (ad k0), .int p1] S T o r S T := by
  intro sz
  refine en_ (plainFor_of_name (by decide)) (Nat.le_of_ble_eq_true rfl) ?_
  intro p ev s m args below meth c QQ hQ hsz X hr hlk w ls hl
  have hx := X.1
  have hb := X.2.1
  have hl : lv_has ls 2 [(0, .ref (ad k0)), (1, .int p1)] := hl
  unfold fX8_priceOf at hR
  refine lv_aload_n hx hb dX8_priceOf_0 rfl (lv_at hl 0 rfl) ?_
  refine lv_iload_n hx hb dX8_priceOf_1 rfl (lv_at hl 1 rfl) ?_
  obtain ⟨r2, h1, hR⟩ := bd_e hR
  refine cVi (k := k0) (As := [.int p1]) (rest := []) X hl.1 w okX8_lengthOf (obX8 hk0) rfl lmX8_83 (kX8_lengthOf hk0 h1) ⟨Nat.le_of_ble_eq_true rfl, Nat.le_of_ble_eq_true rfl⟩ ⟨rfl, rfl⟩ ⟨Nat.zero_le _, Nat.zero_le _⟩ rfl rfl (Nat.le_of_ble_eq_true rfl) dX8_priceOf_2 (fun H locs zr2 w => ?_)
  refine lv_iload_n hx hb dX8_priceOf_5 rfl (lv_at hl 1 rfl) ?_
  obtain ⟨r4, h3, hR⟩ := bd_e hR
  refine cSi (As := [.int p1]) (rest := [.int r2]) X hl.1 w okJ6_bitCount_0f7a4 lmX8_78 (kJ6_bitCount_0f7a4 h3) ⟨Nat.le_of_ble_eq_true rfl, Nat.le_of_ble_eq_true rfl⟩ ⟨rfl, rfl⟩ ⟨Nat.zero_le _, Nat.zero_le _⟩ rfl rfl (Nat.le_of_ble_eq_true rfl) dX8_priceOf_6 (fun H locs zr4 w => ?_)
  refine lv_imul hx hb dX8_priceOf_9 ?_
  refine lv_iconst (v := 4) hx hb dX8_priceOf_10 (by decide) ?_
  refine lv_idiv hx hb dX8_priceOf_11 (by decide) ?_
  rw [hQ]
  exact rt_i X hr hlk w hsz rfl rfl rfl (lf1 hR) dX8_priceOf_12
/- LooseEnds$Advice.priceOfTales()I -/
def fX0_priceOfTales_l4 (N : Nat) : Nat → Int32 → Int32 → SS → Option (Int32)
  | 0, _, _, _ => none
  | n + 1, x1, x2, S => if (gi S 18 4) ≤ x2 then
  (some x1)
  else
  (bd (fX0_isFirstOfTale N S x2) fun r3 =>
  if r3 = 0 then
  (lt (x2 + 1) fun v5 =>
  fX0_priceOfTales_l4 N n x1 v5 S)
  else
  (bd (fX8_taleOf N S 18 x2) fun r7 =>
  bd (fX8_priceOf N S 18 r7) fun r9 =>
  lt (x1 + r9) fun v10 =>
  lt (x2 + 1) fun v11 =>
  fX0_priceOfTales_l4 N n v10 v11 S))
def fX0_priceOfTales (N : Nat) (S : SS) : Option (Int32) := fX0_priceOfTales_l4 N N 0 0 S
set_option maxHeartbeats 4000000 in
set_option maxRecDepth 100000 in
theorem kX0_priceOfTales {l : Launch} {D : va_G} {dA : Nat → ClassId} {ad : Nat → Nat} {t1 t2 : Nat} {N : Nat} {S T : SS} {o : Nat → Int64} {r : Int32} (hR : fX0_priceOfTales N S = some r) : KI l D dA ad t1 t2 yX0_priceOfTales cX0_priceOfTales 3 .int { frames := 2, cells := 0, slots := 0, locals := 47 } [.ref (ad 29)] S T o r S T := by
  intro sz
  refine en_ (plainFor_of_name (by decide)) (Nat.le_of_ble_eq_true rfl) ?_
  intro p ev s m args below meth c QQ hQ hsz X hr hlk w ls hl
  have hx := X.1
  have hb := X.2.1
  have L4 : ∀ (n : Nat), ∀ (x1 : Int32) (x2 : Int32), fX0_priceOfTales_l4 N n x1 x2 S = some r → WAT p l ev ({ frames := 2, cells := 0, slots := 0, locals := 47 } : Room) s m args below meth c QQ 3 D dA ad t1 t2 S T o 4 [(0, .ref (ad 29)), (1, .int x1), (2, .int x2)] [] := by
    intro n
    induction n with
    | zero =>
      intro x1 x2 hR
      exact nomatch hR
    | succ n ih =>
      intro x1 x2 hR H locs ls w hl
      rw [fX0_priceOfTales_l4] at hR
      refine lv_iload_n hx hb dX0_priceOfTales_4 rfl (lv_at hl 2 rfl) ?_
      refine lv_aload_n hx hb dX0_priceOfTales_5 rfl (lv_at hl 0 rfl) ?_
      refine gX0_now X w lfX0_42 dX0_priceOfTales_6 ?_
      refine gX8_ends (Or.inl rfl) X w lfX0_49 dX0_priceOfTales_9 ?_
      refine lv_icmp_ge (tgt := 47) hx hb dX0_priceOfTales_12 (by decide) (fun c1 => ?_) (fun c1 => ?_)
      · rw [if_pos c1] at hR
        refine lv_iload_n hx hb dX0_priceOfTales_47 rfl (lv_at hl 1 rfl) ?_
        rw [hQ]
        exact rt_i X hr hlk w hsz rfl rfl rfl (lf1 hR) dX0_priceOfTales_48
      · rw [if_neg c1] at hR
        refine lv_aload_n hx hb dX0_priceOfTales_15 rfl (lv_at hl 0 rfl) ?_
        refine lv_iload_n hx hb dX0_priceOfTales_16 rfl (lv_at hl 2 rfl) ?_
        obtain ⟨r3, h2, hR⟩ := bd_e hR
        refine cVi (k := 29) (As := [.int x2]) (rest := []) X hl.1 w okX0_isFirstOfTale obX0 rfl lmX0_176 (kX0_isFirstOfTale h2) ⟨Nat.le_of_ble_eq_true rfl, Nat.le_of_ble_eq_true rfl⟩ ⟨rfl, rfl⟩ ⟨Nat.zero_le _, Nat.zero_le _⟩ rfl rfl (Nat.le_of_ble_eq_true rfl) dX0_priceOfTales_17 (fun H locs zr3 w => ?_)
        refine lv_if_eq (tgt := 41) hx hb dX0_priceOfTales_20 (by decide) (fun c4 => ?_) (fun c4 => ?_)
        · rw [if_pos c4] at hR
          obtain ⟨v5, ev5, hR⟩ := lt_e hR
          refine lv_iinc (v := v5) (lv' := [(2, .int v5), (0, .ref (ad 29)), (1, .int x1)]) hx hb dX0_priceOfTales_41 hl (k := 2) rfl (by rw [ev5]; rfl) (by decide) rfl (fun ls hl => ?_)
          refine lv_goto (tgt := 4) hx hb dX0_priceOfTales_44 (by decide) ?_
          exact ih x1 v5 hR _ _ _ w (lv_sub hl [1, 2, 0] rfl)
        · rw [if_neg c4] at hR
          refine lv_iload_n hx hb dX0_priceOfTales_23 rfl (lv_at hl 1 rfl) ?_
          refine lv_aload_n hx hb dX0_priceOfTales_24 rfl (lv_at hl 0 rfl) ?_
          refine gX0_now X w lfX0_42 dX0_priceOfTales_25 ?_
          refine lv_aload_n hx hb dX0_priceOfTales_28 rfl (lv_at hl 0 rfl) ?_
          refine gX0_now X w lfX0_42 dX0_priceOfTales_29 ?_
          refine lv_iload_n hx hb dX0_priceOfTales_32 rfl (lv_at hl 2 rfl) ?_
          obtain ⟨r7, h6, hR⟩ := bd_e hR
          refine cVi (k := 18) (As := [.int x2]) (rest := [.ref (ad 18), .int x1]) X hl.1 w okX8_taleOf (obX8 (Or.inl rfl)) rfl lmX0_145 (kX8_taleOf (Or.inl rfl) h6) ⟨Nat.le_of_ble_eq_true rfl, Nat.le_of_ble_eq_true rfl⟩ ⟨rfl, rfl⟩ ⟨Nat.zero_le _, Nat.zero_le _⟩ rfl rfl (Nat.le_of_ble_eq_true rfl) dX0_priceOfTales_33 (fun H locs zr7 w => ?_)
          obtain ⟨r9, h8, hR⟩ := bd_e hR
          refine cVi (k := 18) (As := [.int r7]) (rest := [.int x1]) X hl.1 w okX8_priceOf (obX8 (Or.inl rfl)) rfl lmX0_179 (kX8_priceOf (Or.inl rfl) h8) ⟨Nat.le_of_ble_eq_true rfl, Nat.le_of_ble_eq_true rfl⟩ ⟨rfl, rfl⟩ ⟨Nat.zero_le _, Nat.zero_le _⟩ rfl rfl (Nat.le_of_ble_eq_true rfl) dX0_priceOfTales_36 (fun H locs zr9 w => ?_)
          refine lv_iadd hx hb dX0_priceOfTales_39 ?_
          obtain ⟨v10, ev10, hR⟩ := lt_e hR
          refine nm_i ev10 ?_
          refine lv_istore_n (lv' := [(1, .int v10), (0, .ref (ad 29)), (2, .int x2)]) hx hb dX0_priceOfTales_40 rfl hl (by decide) rfl (fun ls hl => ?_)
          obtain ⟨v11, ev11, hR⟩ := lt_e hR
          refine lv_iinc (v := v11) (lv' := [(2, .int v11), (1, .int v10), (0, .ref (ad 29))]) hx hb dX0_priceOfTales_41 hl (k := 2) rfl (by rw [ev11]; rfl) (by decide) rfl (fun ls hl => ?_)
          refine lv_goto (tgt := 4) hx hb dX0_priceOfTales_44 (by decide) ?_
          exact ih v10 v11 hR _ _ _ w (lv_sub hl [2, 1, 0] rfl)
  have hl : lv_has ls 3 [(0, .ref (ad 29))] := hl
  unfold fX0_priceOfTales at hR
  refine lv_iconst (v := 0) hx hb dX0_priceOfTales_0 (by decide) ?_
  refine lv_istore_n (lv' := [(1, .int 0), (0, .ref (ad 29))]) hx hb dX0_priceOfTales_1 rfl hl (by decide) rfl (fun ls hl => ?_)
  refine lv_iconst (v := 0) hx hb dX0_priceOfTales_2 (by decide) ?_
  refine lv_istore_n (lv' := [(2, .int 0), (1, .int 0), (0, .ref (ad 29))]) hx hb dX0_priceOfTales_3 rfl hl (by decide) rfl (fun ls hl => ?_)
  exact L4 N 0 0 hR _ _ _ w (lv_sub hl [2, 1, 0] rfl)
/- LooseEnds$Duel.isMove(I)Z -/
def fX1_isMove (N : Nat) (p0 : Int32) : Option (Int32) := if p0 < 0 then
  (some 0)
  else
  (if 4 ≤ p0 then
  (some 0)
  else
  (some 1))
set_option maxHeartbeats 4000000 in
set_option maxRecDepth 100000 in
theorem kX1_isMove {l : Launch} {D : va_G} {dA : Nat → ClassId} {ad : Nat → Nat} {t1 t2 : Nat} {N : Nat} {S T : SS} {o : Nat → Int64} {p0 : Int32} {r : Int32} (hR : fX1_isMove N p0 = some r) : KI l D dA ad t1 t2 yX1_isMove cX1_isMove 1 .boolean { frames := 0, cells := 0, slots := 0, locals := 0 } [.int p0] S T o r S T := by
  intro sz
  refine en_ (plainFor_of_name (by decide)) (Nat.le_of_ble_eq_true rfl) ?_
  intro p ev s m args below meth c QQ hQ hsz X hr hlk w ls hl
  have hx := X.1
  have hb := X.2.1
  have hl : lv_has ls 1 [(0, .int p0)] := hl
  unfold fX1_isMove at hR
  refine lv_iload_n hx hb dX1_isMove_0 rfl (lv_at hl 0 rfl) ?_
  refine lv_if_lt (tgt := 13) hx hb dX1_isMove_1 (by decide) (fun c1 => ?_) (fun c1 => ?_)
  · rw [if_pos c1] at hR
    refine lv_iconst (v := 0) hx hb dX1_isMove_13 (by decide) ?_
    rw [hQ]
    exact rt_i X hr hlk w hsz rfl rfl rfl (lf1 hR) dX1_isMove_14
  · rw [if_neg c1] at hR
    refine lv_iload_n hx hb dX1_isMove_4 rfl (lv_at hl 0 rfl) ?_
    refine lv_iconst (v := 4) hx hb dX1_isMove_5 (by decide) ?_
    refine lv_icmp_ge (tgt := 13) hx hb dX1_isMove_6 (by decide) (fun c2 => ?_) (fun c2 => ?_)
    · rw [if_pos c2] at hR
      refine lv_iconst (v := 0) hx hb dX1_isMove_13 (by decide) ?_
      rw [hQ]
      exact rt_i X hr hlk w hsz rfl rfl rfl (lf1 hR) dX1_isMove_14
    · rw [if_neg c2] at hR
      refine lv_iconst (v := 1) hx hb dX1_isMove_9 (by decide) ?_
      refine lv_goto (tgt := 14) hx hb dX1_isMove_10 (by decide) ?_
      rw [hQ]
      exact rt_i X hr hlk w hsz rfl rfl rfl (lf1 hR) dX1_isMove_14
/- LooseEnds$Duel.dyedOn(II)I -/
def fX1_dyedOn (N : Nat) (S : SS) (p1 : Int32) (p2 : Int32) : Option (Int32) := ck (inb p1 7) <|
  some (mn 20 ((ga S 19 p1) + p2))
set_option maxHeartbeats 4000000 in
set_option maxRecDepth 100000 in
theorem kX1_dyedOn {l : Launch} {D : va_G} {dA : Nat → ClassId} {ad : Nat → Nat} {t1 t2 : Nat} {N : Nat} {S T : SS} {o : Nat → Int64} {p1 : Int32} {p2 : Int32} {r : Int32} (hR : fX1_dyedOn N S p1 p2 = some r) : KI l D dA ad t1 t2 yX1_dyedOn cX1_dyedOn 3 .int { frames := 1, cells := 0, slots := 0, locals := 13 } [.ref (ad 44), .int p1, .int p2] S T o r S T := by
  intro sz
  refine en_ (plainFor_of_name (by decide)) (Nat.le_of_ble_eq_true rfl) ?_
  intro p ev s m args below meth c QQ hQ hsz X hr hlk w ls hl
  have hx := X.1
  have hb := X.2.1
  have hl : lv_has ls 3 [(0, .ref (ad 44)), (1, .int p1), (2, .int p2)] := hl
  unfold fX1_dyedOn at hR
  refine lv_bipush (v := 20) hx hb dX1_dyedOn_0 (by decide) ?_
  refine lv_aload_n hx hb dX1_dyedOn_2 rfl (lv_at hl 0 rfl) ?_
  refine gX1_now X w lfX1_26 dX1_dyedOn_3 ?_
  refine gX8_colours (Or.inl rfl) X w lfX1_30 dX1_dyedOn_6 ?_
  refine lv_iload_n hx hb dX1_dyedOn_9 rfl (lv_at hl 1 rfl) ?_
  obtain ⟨g1, hR⟩ := ck_e hR
  refine ialS (n := 7) rfl (by decide) X w rfl g1 dX1_dyedOn_10 ?_
  refine lv_iload_n hx hb dX1_dyedOn_11 rfl (lv_at hl 2 rfl) ?_
  refine lv_iadd hx hb dX1_dyedOn_12 ?_
  refine mnI X hl.1 lmX1_35 ⟨Nat.le_of_ble_eq_true rfl, Nat.le_of_ble_eq_true rfl⟩ ⟨Nat.zero_le _, Nat.zero_le _⟩ dX1_dyedOn_13 ?_
  rw [hQ]
  exact rt_i X hr hlk w hsz rfl rfl rfl (lf1 hR) dX1_dyedOn_16
/- LooseEnds$Duel.has(IIII)I -/
def fX1_has_j49 (N : Nat) (kc14 : Int32 → Int32 → Int32 → Int32 → Int32 → Int32 → Int32 → SS → Option (SS × Int32)) (x1 : Int32) (x2 : Int32) (x3 : Int32) (x4 : Int32) (x5 : Int32) (x6 : Int32) (x7 : Int32) (y0 : Int32) (y1 : Int32) (y3 : Int32) (S : SS) : Option (SS × Int32) := bd (fX1_dyedOn N S y1 y0) fun r2 =>
  lt (ab (y3 - r2)) fun v3 =>
  ck (inb x1 7) <|
  ck (inb x7 7) <|
  lt (ab ((ga S 5 x1) - (ga S 5 x7))) fun v6 =>
  ck (inb x1 7) <|
  ck (inb x7 7) <|
  b2 (fX2_allows N S v3 v6 ((ga S 20 x1) + (ga S 20 x7)) 1 (gi S 18 9)) fun S11 r10 =>
  if r10 = 0 then
  (lt (x7 + 1) fun v13 =>
  kc14 x1 x2 x3 x4 x5 x6 v13 S11)
  else
  (lt (x6 + 1) fun v14 =>
  lt (x7 + 1) fun v15 =>
  kc14 x1 x2 x3 x4 x5 v14 v15 S11)
def fX1_has_l14 (N : Nat) : Nat → Int32 → Int32 → Int32 → Int32 → Int32 → Int32 → Int32 → SS → Option (SS × Int32)
  | 0, _, _, _, _, _, _, _, _ => none
  | n + 1, x1, x2, x3, x4, x5, x6, x7, S => if (gi S 18 4) ≤ x7 then
  (some (S, x6 - x3))
  else
  (if x7 = x1 then
  (lt (x7 + 1) fun v3 =>
  fX1_has_l14 N n x1 x2 x3 x4 x5 x6 v3 S)
  else
  (if x7 = x2 then
  (fX1_has_j49 N (fX1_has_l14 N n) x1 x2 x3 x4 x5 x6 x7 x4 x7 x5 S)
  else
  (fX1_has_j49 N (fX1_has_l14 N n) x1 x2 x3 x4 x5 x6 x7 0 x7 x5 S)))
def fX1_has (N : Nat) (S : SS) (p1 : Int32) (p2 : Int32) (p3 : Int32) (p4 : Int32) : Option (SS × Int32) := bd (fX1_dyedOn N S p1 p3) fun r2 =>
  fX1_has_l14 N N p1 p2 p3 p4 r2 0 0 S
set_option maxHeartbeats 4000000 in
set_option maxRecDepth 100000 in
theorem kX1_has {l : Launch} {D : va_G} {dA : Nat → ClassId} {ad : Nat → Nat} {t1 t2 : Nat} {N : Nat} {S T : SS} {o : Nat → Int64} {p1 : Int32} {p2 : Int32} {p3 : Int32} {p4 : Int32} {r : Int32} {S' : SS} (hR : fX1_has N S p1 p2 p3 p4 = some (S', r)) : KI l D dA ad t1 t2 yX1_has cX1_has 10 .int { frames := 3, cells := 0, slots := 0, locals := 75 } [.ref (ad 44), .int p1, .int p2, .int p3, .int p4] S T o r S' T := by
  intro sz
  refine en_ (plainFor_of_name (by decide)) (Nat.le_of_ble_eq_true rfl) ?_
  intro p ev s m args below meth c QQ hQ hsz X hr hlk w ls hl
  have hx := X.1
  have hb := X.2.1
  have J49 : ∀ (kc14 : Int32 → Int32 → Int32 → Int32 → Int32 → Int32 → Int32 → SS → Option (SS × Int32)) (_ : ∀ (x1 : Int32) (x2 : Int32) (x3 : Int32) (x4 : Int32) (x5 : Int32) (x6 : Int32) (x7 : Int32) (S : SS), kc14 x1 x2 x3 x4 x5 x6 x7 S = some (S', r) → WAT p l ev ({ frames := 3, cells := 0, slots := 0, locals := 75 } : Room) s m args below meth c QQ 10 D dA ad t1 t2 S T o 14 [(0, .ref (ad 44)), (1, .int x1), (2, .int x2), (3, .int x3), (4, .int x4), (5, .int x5), (6, .int x6), (7, .int x7)] []), ∀ (x1 : Int32) (x2 : Int32) (x3 : Int32) (x4 : Int32) (x5 : Int32) (x6 : Int32) (x7 : Int32) (y0 : Int32) (y1 : Int32) (y3 : Int32) (S : SS), fX1_has_j49 N kc14 x1 x2 x3 x4 x5 x6 x7 y0 y1 y3 S = some (S', r) → WAT p l ev ({ frames := 3, cells := 0, slots := 0, locals := 75 } : Room) s m args below meth c QQ 10 D dA ad t1 t2 S T o 49 [(0, .ref (ad 44)), (1, .int x1), (2, .int x2), (3, .int x3), (4, .int x4), (5, .int x5), (6, .int x6), (7, .int x7)] [.int y0, .int y1, .ref (ad 44), .int y3] := by
    intro kc14 hk14 x1 x2 x3 x4 x5 x6 x7 y0 y1 y3 S hR H locs ls w hl
    unfold fX1_has_j49 at hR
    obtain ⟨r2, h1, hR⟩ := bd_e hR
    refine cVi (k := 44) (As := [.int y1, .int y0]) (rest := [.int y3]) X hl.1 w okX1_dyedOn obX1 rfl lmX1_41 (kX1_dyedOn h1) ⟨Nat.le_of_ble_eq_true rfl, Nat.le_of_ble_eq_true rfl⟩ ⟨rfl, rfl⟩ ⟨Nat.zero_le _, Nat.zero_le _⟩ rfl rfl (Nat.le_of_ble_eq_true rfl) dX1_has_49 (fun H locs zr2 w => ?_)
    refine lv_isub hx hb dX1_has_52 ?_
    refine abI X hl.1 lmX1_48 ⟨Nat.le_of_ble_eq_true rfl, Nat.le_of_ble_eq_true rfl⟩ ⟨Nat.zero_le _, Nat.zero_le _⟩ dX1_has_53 ?_
    obtain ⟨v3, ev3, hR⟩ := lt_e hR
    refine nm_i ev3 ?_
    refine lv_istore (lv' := [(8, .int v3), (0, .ref (ad 44)), (1, .int x1), (2, .int x2), (3, .int x3), (4, .int x4), (5, .int x5), (6, .int x6), (7, .int x7)]) hx hb dX1_has_56 hl (by decide) rfl (fun ls hl => ?_)
    refine lv_aload_n hx hb dX1_has_58 rfl (lv_at hl 1 rfl) ?_
    refine gX1_mill X w lfX1_18 dX1_has_59 ?_
    refine gX5_plies (Or.inl rfl) X w lfX1_52 dX1_has_62 ?_
    refine lv_iload_n hx hb dX1_has_65 rfl (lv_at hl 2 rfl) ?_
    obtain ⟨g4, hR⟩ := ck_e hR
    refine ialS (n := 7) rfl (by decide) X w rfl g4 dX1_has_66 ?_
    refine lv_aload_n hx hb dX1_has_67 rfl (lv_at hl 1 rfl) ?_
    refine gX1_mill X w lfX1_18 dX1_has_68 ?_
    refine gX5_plies (Or.inl rfl) X w lfX1_52 dX1_has_71 ?_
    refine lv_iload hx hb dX1_has_74 (lv_at hl 8 rfl) ?_
    obtain ⟨g5, hR⟩ := ck_e hR
    refine ialS (n := 7) rfl (by decide) X w rfl g5 dX1_has_76 ?_
    refine lv_isub hx hb dX1_has_77 ?_
    refine abI X hl.1 lmX1_48 ⟨Nat.le_of_ble_eq_true rfl, Nat.le_of_ble_eq_true rfl⟩ ⟨Nat.zero_le _, Nat.zero_le _⟩ dX1_has_78 ?_
    obtain ⟨v6, ev6, hR⟩ := lt_e hR
    refine nm_i ev6 ?_
    refine lv_istore (lv' := [(9, .int v6), (8, .int v3), (0, .ref (ad 44)), (1, .int x1), (2, .int x2), (3, .int x3), (4, .int x4), (5, .int x5), (6, .int x6), (7, .int x7)]) hx hb dX1_has_81 hl (by decide) rfl (fun ls hl => ?_)
    refine lv_aload_n hx hb dX1_has_83 rfl (lv_at hl 2 rfl) ?_
    refine gX1_judge X w lfX1_22 dX1_has_84 ?_
    refine lv_iload hx hb dX1_has_87 (lv_at hl 1 rfl) ?_
    refine lv_iload hx hb dX1_has_89 (lv_at hl 0 rfl) ?_
    refine lv_aload_n hx hb dX1_has_91 rfl (lv_at hl 2 rfl) ?_
    refine gX1_now X w lfX1_26 dX1_has_92 ?_
    refine gX8_lengths (Or.inl rfl) X w lfX1_57 dX1_has_95 ?_
    refine lv_iload_n hx hb dX1_has_98 rfl (lv_at hl 3 rfl) ?_
    obtain ⟨g7, hR⟩ := ck_e hR
    refine ialS (n := 7) rfl (by decide) X w rfl g7 dX1_has_99 ?_
    refine lv_aload_n hx hb dX1_has_100 rfl (lv_at hl 2 rfl) ?_
    refine gX1_now X w lfX1_26 dX1_has_101 ?_
    refine gX8_lengths (Or.inl rfl) X w lfX1_57 dX1_has_104 ?_
    refine lv_iload hx hb dX1_has_107 (lv_at hl 9 rfl) ?_
    obtain ⟨g8, hR⟩ := ck_e hR
    refine ialS (n := 7) rfl (by decide) X w rfl g8 dX1_has_109 ?_
    refine lv_iadd hx hb dX1_has_110 ?_
    refine lv_iconst (v := 1) hx hb dX1_has_111 (by decide) ?_
    refine lv_aload_n hx hb dX1_has_112 rfl (lv_at hl 2 rfl) ?_
    refine gX1_now X w lfX1_26 dX1_has_113 ?_
    refine gX8_day (Or.inl rfl) X w lfX1_60 dX1_has_116 ?_
    obtain ⟨S11, r10, h9, hR⟩ := b2_e hR
    refine cVi (k := 14) (As := [.int v3, .int v6, .int ((ga S 20 x1) + (ga S 20 x7)), .int 1, .int (gi S 18 9)]) (rest := []) X hl.1 w okX2_allows obX2 rfl lmX1_63 (kX2_allows h9) ⟨Nat.le_of_ble_eq_true rfl, Nat.le_of_ble_eq_true rfl⟩ ⟨rfl, rfl⟩ ⟨Nat.zero_le _, Nat.zero_le _⟩ rfl rfl (Nat.le_of_ble_eq_true rfl) dX1_has_119 (fun H locs zr10 w => ?_)
    refine lv_if_eq (tgt := 128) hx hb dX1_has_122 (by decide) (fun c12 => ?_) (fun c12 => ?_)
    · rw [if_pos c12] at hR
      obtain ⟨v13, ev13, hR⟩ := lt_e hR
      refine lv_iinc (v := v13) (lv' := [(7, .int v13), (9, .int v6), (8, .int v3), (0, .ref (ad 44)), (1, .int x1), (2, .int x2), (3, .int x3), (4, .int x4), (5, .int x5), (6, .int x6)]) hx hb dX1_has_128 hl (k := 9) rfl (by rw [ev13]; rfl) (by decide) rfl (fun ls hl => ?_)
      refine lv_goto (tgt := 14) hx hb dX1_has_131 (by decide) ?_
      exact hk14 x1 x2 x3 x4 x5 x6 v13 S11 hR _ _ _ w (lv_sub hl [3, 4, 5, 6, 7, 8, 9, 0] rfl)
    · rw [if_neg c12] at hR
      obtain ⟨v14, ev14, hR⟩ := lt_e hR
      refine lv_iinc (v := v14) (lv' := [(6, .int v14), (9, .int v6), (8, .int v3), (0, .ref (ad 44)), (1, .int x1), (2, .int x2), (3, .int x3), (4, .int x4), (5, .int x5), (7, .int x7)]) hx hb dX1_has_125 hl (k := 8) rfl (by rw [ev14]; rfl) (by decide) rfl (fun ls hl => ?_)
      obtain ⟨v15, ev15, hR⟩ := lt_e hR
      refine lv_iinc (v := v15) (lv' := [(7, .int v15), (6, .int v14), (9, .int v6), (8, .int v3), (0, .ref (ad 44)), (1, .int x1), (2, .int x2), (3, .int x3), (4, .int x4), (5, .int x5)]) hx hb dX1_has_128 hl (k := 9) rfl (by rw [ev15]; rfl) (by decide) rfl (fun ls hl => ?_)
      refine lv_goto (tgt := 14) hx hb dX1_has_131 (by decide) ?_
      exact hk14 x1 x2 x3 x4 x5 v14 v15 S11 hR _ _ _ w (lv_sub hl [4, 5, 6, 7, 8, 9, 1, 0] rfl)
  have L14 : ∀ (n : Nat), ∀ (x1 : Int32) (x2 : Int32) (x3 : Int32) (x4 : Int32) (x5 : Int32) (x6 : Int32) (x7 : Int32) (S : SS), fX1_has_l14 N n x1 x2 x3 x4 x5 x6 x7 S = some (S', r) → WAT p l ev ({ frames := 3, cells := 0, slots := 0, locals := 75 } : Room) s m args below meth c QQ 10 D dA ad t1 t2 S T o 14 [(0, .ref (ad 44)), (1, .int x1), (2, .int x2), (3, .int x3), (4, .int x4), (5, .int x5), (6, .int x6), (7, .int x7)] [] := by
    intro n
    induction n with
    | zero =>
      intro x1 x2 x3 x4 x5 x6 x7 S hR
      exact nomatch hR
    | succ n ih =>
      intro x1 x2 x3 x4 x5 x6 x7 S hR H locs ls w hl
      rw [fX1_has_l14] at hR
      refine lv_iload hx hb dX1_has_14 (lv_at hl 7 rfl) ?_
      refine lv_aload_n hx hb dX1_has_16 rfl (lv_at hl 0 rfl) ?_
      refine gX1_now X w lfX1_26 dX1_has_17 ?_
      refine gX8_ends (Or.inl rfl) X w lfX1_44 dX1_has_20 ?_
      refine lv_icmp_ge (tgt := 134) hx hb dX1_has_23 (by decide) (fun c1 => ?_) (fun c1 => ?_)
      · rw [if_pos c1] at hR
        refine lv_iload hx hb dX1_has_134 (lv_at hl 6 rfl) ?_
        refine lv_iload_n hx hb dX1_has_136 rfl (lv_at hl 3 rfl) ?_
        refine lv_isub hx hb dX1_has_137 ?_
        rw [hQ]
        exact rt_i X hr hlk w hsz rfl (lf2 hR).1 rfl (lf2 hR).2 dX1_has_138
      · rw [if_neg c1] at hR
        refine lv_iload hx hb dX1_has_26 (lv_at hl 7 rfl) ?_
        refine lv_iload_n hx hb dX1_has_28 rfl (lv_at hl 1 rfl) ?_
        refine lv_icmp_eq (tgt := 128) hx hb dX1_has_29 (by decide) (fun c2 => ?_) (fun c2 => ?_)
        · rw [if_pos c2] at hR
          obtain ⟨v3, ev3, hR⟩ := lt_e hR
          refine lv_iinc (v := v3) (lv' := [(7, .int v3), (0, .ref (ad 44)), (1, .int x1), (2, .int x2), (3, .int x3), (4, .int x4), (5, .int x5), (6, .int x6)]) hx hb dX1_has_128 hl (k := 7) rfl (by rw [ev3]; rfl) (by decide) rfl (fun ls hl => ?_)
          refine lv_goto (tgt := 14) hx hb dX1_has_131 (by decide) ?_
          exact ih x1 x2 x3 x4 x5 x6 v3 S hR _ _ _ w (lv_sub hl [1, 2, 3, 4, 5, 6, 7, 0] rfl)
        · rw [if_neg c2] at hR
          refine lv_iload hx hb dX1_has_32 (lv_at hl 5 rfl) ?_
          refine lv_aload_n hx hb dX1_has_34 rfl (lv_at hl 0 rfl) ?_
          refine lv_iload hx hb dX1_has_35 (lv_at hl 7 rfl) ?_
          refine lv_iload hx hb dX1_has_37 (lv_at hl 7 rfl) ?_
          refine lv_iload_n hx hb dX1_has_39 rfl (lv_at hl 2 rfl) ?_
          refine lv_icmp_ne (tgt := 48) hx hb dX1_has_40 (by decide) (fun c4 => ?_) (fun c4 => ?_)
          · rw [if_neg c4] at hR
            refine lv_iconst (v := 0) hx hb dX1_has_48 (by decide) ?_
            exact J49 _ ih x1 x2 x3 x4 x5 x6 x7 0 x7 x5 S hR _ _ _ w (lv_sub hl [0, 1, 2, 3, 4, 5, 6, 7] rfl)
          · rw [if_pos c4] at hR
            refine lv_iload hx hb dX1_has_43 (lv_at hl 4 rfl) ?_
            refine lv_goto (tgt := 49) hx hb dX1_has_45 (by decide) ?_
            exact J49 _ ih x1 x2 x3 x4 x5 x6 x7 x4 x7 x5 S hR _ _ _ w (lv_sub hl [0, 1, 2, 3, 4, 5, 6, 7] rfl)
  have hl : lv_has ls 10 [(0, .ref (ad 44)), (1, .int p1), (2, .int p2), (3, .int p3), (4, .int p4)] := hl
  unfold fX1_has at hR
  refine lv_aload_n hx hb dX1_has_0 rfl (lv_at hl 0 rfl) ?_
  refine lv_iload_n hx hb dX1_has_1 rfl (lv_at hl 1 rfl) ?_
  refine lv_iload_n hx hb dX1_has_2 rfl (lv_at hl 3 rfl) ?_
  obtain ⟨r2, h1, hR⟩ := bd_e hR
  refine cVi (k := 44) (As := [.int p1, .int p3]) (rest := []) X hl.1 w okX1_dyedOn obX1 rfl lmX1_41 (kX1_dyedOn h1) ⟨Nat.le_of_ble_eq_true rfl, Nat.le_of_ble_eq_true rfl⟩ ⟨rfl, rfl⟩ ⟨Nat.zero_le _, Nat.zero_le _⟩ rfl rfl (Nat.le_of_ble_eq_true rfl) dX1_has_3 (fun H locs zr2 w => ?_)
  refine lv_istore (lv' := [(5, .int r2), (0, .ref (ad 44)), (1, .int p1), (2, .int p2), (3, .int p3), (4, .int p4)]) hx hb dX1_has_6 hl (by decide) rfl (fun ls hl => ?_)
  refine lv_iconst (v := 0) hx hb dX1_has_8 (by decide) ?_
  refine lv_istore (lv' := [(6, .int 0), (5, .int r2), (0, .ref (ad 44)), (1, .int p1), (2, .int p2), (3, .int p3), (4, .int p4)]) hx hb dX1_has_9 hl (by decide) rfl (fun ls hl => ?_)
  refine lv_iconst (v := 0) hx hb dX1_has_11 (by decide) ?_
  refine lv_istore (lv' := [(7, .int 0), (6, .int 0), (5, .int r2), (0, .ref (ad 44)), (1, .int p1), (2, .int p2), (3, .int p3), (4, .int p4)]) hx hb dX1_has_12 hl (by decide) rfl (fun ls hl => ?_)
  exact L14 N p1 p2 p3 p4 r2 0 0 S hR _ _ _ w (lv_sub hl [3, 4, 5, 6, 7, 2, 1, 0] rfl)
/- LooseEnds$Duel.play(II)V -/
def fX1_play_l10 (N : Nat) (kc2 : Int32 → Int32 → Int32 → SS → Option (SS)) : Nat → Int32 → Int32 → Int32 → Int32 → SS → Option (SS)
  | 0, _, _, _, _, _ => none
  | n + 1, x1, x2, x3, x4, S => if 4 ≤ x4 then
  (lt (x3 + 1) fun v2 =>
  kc2 x1 x2 v2 S)
  else
  (b2 (fX1_has N S x1 x2 x3 x4) fun S5 r4 =>
  ck (inb ((x3 * 4) + x4) 16) <|
  lt (pa S5 45 ((x3 * 4) + x4) r4) fun S7 =>
  b2 (fX1_has N S7 x2 x1 x4 x3) fun S10 r9 =>
  ck (inb ((x3 * 4) + x4) 16) <|
  lt (pa S10 46 ((x3 * 4) + x4) r9) fun S12 =>
  lt (x4 + 1) fun v13 =>
  fX1_play_l10 N kc2 n x1 x2 x3 v13 S12)
def fX1_play_l2 (N : Nat) : Nat → Int32 → Int32 → Int32 → SS → Option (SS)
  | 0, _, _, _, _ => none
  | n + 1, x1, x2, x3, S => if 4 ≤ x3 then
  (some S)
  else
  (fX1_play_l10 N (fX1_play_l2 N n) N x1 x2 x3 0 S)
def fX1_play (N : Nat) (S : SS) (p1 : Int32) (p2 : Int32) : Option (SS) := fX1_play_l2 N N p1 p2 0 S
set_option maxHeartbeats 4000000 in
set_option maxRecDepth 100000 in
theorem kX1_play {l : Launch} {D : va_G} {dA : Nat → ClassId} {ad : Nat → Nat} {t1 t2 : Nat} {N : Nat} {S T : SS} {o : Nat → Int64} {p1 : Int32} {p2 : Int32} {S' : SS} (hR : fX1_play N S p1 p2 = some S') : KV l D dA ad t1 t2 yX1_play cX1_play 5 { frames := 4, cells := 0, slots := 0, locals := 104 } [.ref (ad 44), .int p1, .int p2] S T o S' T := by
  intro sz
  refine en_ (plainFor_of_name (by decide)) (Nat.le_of_ble_eq_true rfl) ?_
  intro p ev s m args below meth c QQ hQ hsz X hr hlk w ls hl
  have hx := X.1
  have hb := X.2.1
  have L10 : ∀ (kc2 : Int32 → Int32 → Int32 → SS → Option (SS)) (_ : ∀ (x1 : Int32) (x2 : Int32) (x3 : Int32) (S : SS), kc2 x1 x2 x3 S = some S' → WAT p l ev ({ frames := 4, cells := 0, slots := 0, locals := 104 } : Room) s m args below meth c QQ 5 D dA ad t1 t2 S T o 2 [(0, .ref (ad 44)), (1, .int x1), (2, .int x2), (3, .int x3)] []) (n : Nat), ∀ (x1 : Int32) (x2 : Int32) (x3 : Int32) (x4 : Int32) (S : SS), fX1_play_l10 N kc2 n x1 x2 x3 x4 S = some S' → WAT p l ev ({ frames := 4, cells := 0, slots := 0, locals := 104 } : Room) s m args below meth c QQ 5 D dA ad t1 t2 S T o 10 [(0, .ref (ad 44)), (1, .int x1), (2, .int x2), (3, .int x3), (4, .int x4)] [] := by
    intro kc2 hk2 n
    induction n with
    | zero =>
      intro x1 x2 x3 x4 S hR
      exact nomatch hR
    | succ n ih =>
      intro x1 x2 x3 x4 S hR H locs ls w hl
      rw [fX1_play_l10] at hR
      refine lv_iload hx hb dX1_play_10 (lv_at hl 4 rfl) ?_
      refine lv_iconst (v := 4) hx hb dX1_play_12 (by decide) ?_
      refine lv_icmp_ge (tgt := 62) hx hb dX1_play_13 (by decide) (fun c1 => ?_) (fun c1 => ?_)
      · rw [if_pos c1] at hR
        obtain ⟨v2, ev2, hR⟩ := lt_e hR
        refine lv_iinc (v := v2) (lv' := [(3, .int v2), (0, .ref (ad 44)), (1, .int x1), (2, .int x2), (4, .int x4)]) hx hb dX1_play_62 hl (k := 3) rfl (by rw [ev2]; rfl) (by decide) rfl (fun ls hl => ?_)
        refine lv_goto (tgt := 2) hx hb dX1_play_65 (by decide) ?_
        exact hk2 x1 x2 v2 S hR _ _ _ w (lv_sub hl [1, 2, 3, 0] rfl)
      · rw [if_neg c1] at hR
        refine lv_aload_n hx hb dX1_play_16 rfl (lv_at hl 0 rfl) ?_
        refine gX1_mine X w lfX1_11 dX1_play_17 ?_
        refine lv_iload_n hx hb dX1_play_20 rfl (lv_at hl 3 rfl) ?_
        refine lv_iconst (v := 4) hx hb dX1_play_21 (by decide) ?_
        refine lv_imul hx hb dX1_play_22 ?_
        refine lv_iload hx hb dX1_play_23 (lv_at hl 4 rfl) ?_
        refine lv_iadd hx hb dX1_play_25 ?_
        refine lv_aload_n hx hb dX1_play_26 rfl (lv_at hl 0 rfl) ?_
        refine lv_iload_n hx hb dX1_play_27 rfl (lv_at hl 1 rfl) ?_
        refine lv_iload_n hx hb dX1_play_28 rfl (lv_at hl 2 rfl) ?_
        refine lv_iload_n hx hb dX1_play_29 rfl (lv_at hl 3 rfl) ?_
        refine lv_iload hx hb dX1_play_30 (lv_at hl 4 rfl) ?_
        obtain ⟨S5, r4, h3, hR⟩ := b2_e hR
        refine cVi (k := 44) (As := [.int x1, .int x2, .int x3, .int x4]) (rest := [.int ((x3 * 4) + x4), .ref (ad 45)]) X hl.1 w okX1_has obX1 rfl lmX1_69 (kX1_has h3) ⟨Nat.le_of_ble_eq_true rfl, Nat.le_of_ble_eq_true rfl⟩ ⟨rfl, rfl⟩ ⟨Nat.zero_le _, Nat.zero_le _⟩ rfl rfl (Nat.le_of_ble_eq_true rfl) dX1_play_32 (fun H locs zr4 w => ?_)
        obtain ⟨g6, hR⟩ := ck_e hR
        obtain ⟨S7, eS7, hR⟩ := lt_e hR
        refine iasS (n := 16) rfl (by decide) X w rfl g6 dX1_play_35 (fun H locs w => ?_)
        rw [← eS7] at w
        refine lv_aload_n hx hb dX1_play_36 rfl (lv_at hl 0 rfl) ?_
        refine gX1_theirs X w lfX1_15 dX1_play_37 ?_
        refine lv_iload_n hx hb dX1_play_40 rfl (lv_at hl 3 rfl) ?_
        refine lv_iconst (v := 4) hx hb dX1_play_41 (by decide) ?_
        refine lv_imul hx hb dX1_play_42 ?_
        refine lv_iload hx hb dX1_play_43 (lv_at hl 4 rfl) ?_
        refine lv_iadd hx hb dX1_play_45 ?_
        refine lv_aload_n hx hb dX1_play_46 rfl (lv_at hl 0 rfl) ?_
        refine lv_iload_n hx hb dX1_play_47 rfl (lv_at hl 2 rfl) ?_
        refine lv_iload_n hx hb dX1_play_48 rfl (lv_at hl 1 rfl) ?_
        refine lv_iload hx hb dX1_play_49 (lv_at hl 4 rfl) ?_
        refine lv_iload_n hx hb dX1_play_51 rfl (lv_at hl 3 rfl) ?_
        obtain ⟨S10, r9, h8, hR⟩ := b2_e hR
        refine cVi (k := 44) (As := [.int x2, .int x1, .int x4, .int x3]) (rest := [.int ((x3 * 4) + x4), .ref (ad 46)]) X hl.1 w okX1_has obX1 rfl lmX1_69 (kX1_has h8) ⟨Nat.le_of_ble_eq_true rfl, Nat.le_of_ble_eq_true rfl⟩ ⟨rfl, rfl⟩ ⟨Nat.zero_le _, Nat.zero_le _⟩ rfl rfl (Nat.le_of_ble_eq_true rfl) dX1_play_52 (fun H locs zr9 w => ?_)
        obtain ⟨g11, hR⟩ := ck_e hR
        obtain ⟨S12, eS12, hR⟩ := lt_e hR
        refine iasS (n := 16) rfl (by decide) X w rfl g11 dX1_play_55 (fun H locs w => ?_)
        rw [← eS12] at w
        obtain ⟨v13, ev13, hR⟩ := lt_e hR
        refine lv_iinc (v := v13) (lv' := [(4, .int v13), (0, .ref (ad 44)), (1, .int x1), (2, .int x2), (3, .int x3)]) hx hb dX1_play_56 hl (k := 4) rfl (by rw [ev13]; rfl) (by decide) rfl (fun ls hl => ?_)
        refine lv_goto (tgt := 10) hx hb dX1_play_59 (by decide) ?_
        exact ih x1 x2 x3 v13 S12 hR _ _ _ w (lv_sub hl [1, 2, 3, 4, 0] rfl)
  have L2 : ∀ (n : Nat), ∀ (x1 : Int32) (x2 : Int32) (x3 : Int32) (S : SS), fX1_play_l2 N n x1 x2 x3 S = some S' → WAT p l ev ({ frames := 4, cells := 0, slots := 0, locals := 104 } : Room) s m args below meth c QQ 5 D dA ad t1 t2 S T o 2 [(0, .ref (ad 44)), (1, .int x1), (2, .int x2), (3, .int x3)] [] := by
    intro n
    induction n with
    | zero =>
      intro x1 x2 x3 S hR
      exact nomatch hR
    | succ n ih =>
      intro x1 x2 x3 S hR H locs ls w hl
      rw [fX1_play_l2] at hR
      refine lv_iload_n hx hb dX1_play_2 rfl (lv_at hl 3 rfl) ?_
      refine lv_iconst (v := 4) hx hb dX1_play_3 (by decide) ?_
      refine lv_icmp_ge (tgt := 68) hx hb dX1_play_4 (by decide) (fun c1 => ?_) (fun c1 => ?_)
      · rw [if_pos c1] at hR
        rw [hQ]
        exact rt_v X hr hlk w hsz (lf1 hR) rfl dX1_play_68
      · rw [if_neg c1] at hR
        refine lv_iconst (v := 0) hx hb dX1_play_7 (by decide) ?_
        refine lv_istore (lv' := [(4, .int 0), (0, .ref (ad 44)), (1, .int x1), (2, .int x2), (3, .int x3)]) hx hb dX1_play_8 hl (by decide) rfl (fun ls hl => ?_)
        exact L10 _ ih N x1 x2 x3 0 S hR _ _ _ w (lv_sub hl [1, 2, 3, 4, 0] rfl)
  have hl : lv_has ls 5 [(0, .ref (ad 44)), (1, .int p1), (2, .int p2)] := hl
  unfold fX1_play at hR
  refine lv_iconst (v := 0) hx hb dX1_play_0 (by decide) ?_
  refine lv_istore_n (lv' := [(3, .int 0), (0, .ref (ad 44)), (1, .int p1), (2, .int p2)]) hx hb dX1_play_1 rfl hl (by decide) rfl (fun ls hl => ?_)
  exact L2 N p1 p2 0 S hR _ _ _ w (lv_sub hl [1, 2, 3, 0] rfl)
/- LooseEnds$Duel.isRest(II)Z -/
def fX1_isRest_l9 (N : Nat) : Nat → Int32 → Int32 → Int32 → Int32 → SS → Option (Int32)
  | 0, _, _, _, _, _ => none
  | n + 1, x1, x2, x3, x4, S => if 4 ≤ x4 then
  (some 1)
  else
  (ck (inb ((x4 * 4) + x2) 16) <|
  ck (inb x3 16) <|
  if (ga S 45 x3) < (ga S 45 ((x4 * 4) + x2)) then
  (some 0)
  else
  (ck (inb ((x1 * 4) + x4) 16) <|
  ck (inb x3 16) <|
  if (ga S 46 ((x1 * 4) + x4)) ≤ (ga S 46 x3) then
  (lt (x4 + 1) fun v8 =>
  fX1_isRest_l9 N n x1 x2 x3 v8 S)
  else
  (some 0)))
def fX1_isRest (N : Nat) (S : SS) (p1 : Int32) (p2 : Int32) : Option (Int32) := lt ((p1 * 4) + p2) fun v1 =>
  fX1_isRest_l9 N N p1 p2 v1 0 S
set_option maxHeartbeats 4000000 in
set_option maxRecDepth 100000 in
theorem kX1_isRest {l : Launch} {D : va_G} {dA : Nat → ClassId} {ad : Nat → Nat} {t1 t2 : Nat} {N : Nat} {S T : SS} {o : Nat → Int64} {p1 : Int32} {p2 : Int32} {r : Int32} (hR : fX1_isRest N S p1 p2 = some r) : KI l D dA ad t1 t2 yX1_isRest cX1_isRest 5 .boolean { frames := 0, cells := 0, slots := 0, locals := 0 } [.ref (ad 44), .int p1, .int p2] S T o r S T := by
  intro sz
  refine en_ (plainFor_of_name (by decide)) (Nat.le_of_ble_eq_true rfl) ?_
  intro p ev s m args below meth c QQ hQ hsz X hr hlk w ls hl
  have hx := X.1
  have hb := X.2.1
  have L9 : ∀ (n : Nat), ∀ (x1 : Int32) (x2 : Int32) (x3 : Int32) (x4 : Int32), fX1_isRest_l9 N n x1 x2 x3 x4 S = some r → WAT p l ev ({ frames := 0, cells := 0, slots := 0, locals := 0 } : Room) s m args below meth c QQ 5 D dA ad t1 t2 S T o 9 [(0, .ref (ad 44)), (1, .int x1), (2, .int x2), (3, .int x3), (4, .int x4)] [] := by
    intro n
    induction n with
    | zero =>
      intro x1 x2 x3 x4 hR
      exact nomatch hR
    | succ n ih =>
      intro x1 x2 x3 x4 hR H locs ls w hl
      rw [fX1_isRest_l9] at hR
      refine lv_iload hx hb dX1_isRest_9 (lv_at hl 4 rfl) ?_
      refine lv_iconst (v := 4) hx hb dX1_isRest_11 (by decide) ?_
      refine lv_icmp_ge (tgt := 63) hx hb dX1_isRest_12 (by decide) (fun c1 => ?_) (fun c1 => ?_)
      · rw [if_pos c1] at hR
        refine lv_iconst (v := 1) hx hb dX1_isRest_63 (by decide) ?_
        rw [hQ]
        exact rt_i X hr hlk w hsz rfl rfl rfl (lf1 hR) dX1_isRest_64
      · rw [if_neg c1] at hR
        refine lv_aload_n hx hb dX1_isRest_15 rfl (lv_at hl 0 rfl) ?_
        refine gX1_mine X w lfX1_11 dX1_isRest_16 ?_
        refine lv_iload hx hb dX1_isRest_19 (lv_at hl 4 rfl) ?_
        refine lv_iconst (v := 4) hx hb dX1_isRest_21 (by decide) ?_
        refine lv_imul hx hb dX1_isRest_22 ?_
        refine lv_iload_n hx hb dX1_isRest_23 rfl (lv_at hl 2 rfl) ?_
        refine lv_iadd hx hb dX1_isRest_24 ?_
        obtain ⟨g2, hR⟩ := ck_e hR
        refine ialS (n := 16) rfl (by decide) X w rfl g2 dX1_isRest_25 ?_
        refine lv_aload_n hx hb dX1_isRest_26 rfl (lv_at hl 0 rfl) ?_
        refine gX1_mine X w lfX1_11 dX1_isRest_27 ?_
        refine lv_iload_n hx hb dX1_isRest_30 rfl (lv_at hl 3 rfl) ?_
        obtain ⟨g3, hR⟩ := ck_e hR
        refine ialS (n := 16) rfl (by decide) X w rfl g3 dX1_isRest_31 ?_
        refine lv_icmp_gt (tgt := 55) hx hb dX1_isRest_32 (by decide) (fun c4 => ?_) (fun c4 => ?_)
        · rw [if_pos c4] at hR
          refine lv_iconst (v := 0) hx hb dX1_isRest_55 (by decide) ?_
          rw [hQ]
          exact rt_i X hr hlk w hsz rfl rfl rfl (lf1 hR) dX1_isRest_56
        · rw [if_neg c4] at hR
          refine lv_aload_n hx hb dX1_isRest_35 rfl (lv_at hl 0 rfl) ?_
          refine gX1_theirs X w lfX1_15 dX1_isRest_36 ?_
          refine lv_iload_n hx hb dX1_isRest_39 rfl (lv_at hl 1 rfl) ?_
          refine lv_iconst (v := 4) hx hb dX1_isRest_40 (by decide) ?_
          refine lv_imul hx hb dX1_isRest_41 ?_
          refine lv_iload hx hb dX1_isRest_42 (lv_at hl 4 rfl) ?_
          refine lv_iadd hx hb dX1_isRest_44 ?_
          obtain ⟨g5, hR⟩ := ck_e hR
          refine ialS (n := 16) rfl (by decide) X w rfl g5 dX1_isRest_45 ?_
          refine lv_aload_n hx hb dX1_isRest_46 rfl (lv_at hl 0 rfl) ?_
          refine gX1_theirs X w lfX1_15 dX1_isRest_47 ?_
          refine lv_iload_n hx hb dX1_isRest_50 rfl (lv_at hl 3 rfl) ?_
          obtain ⟨g6, hR⟩ := ck_e hR
          refine ialS (n := 16) rfl (by decide) X w rfl g6 dX1_isRest_51 ?_
          refine lv_icmp_le (tgt := 57) hx hb dX1_isRest_52 (by decide) (fun c7 => ?_) (fun c7 => ?_)
          · rw [if_pos c7] at hR
            obtain ⟨v8, ev8, hR⟩ := lt_e hR
            refine lv_iinc (v := v8) (lv' := [(4, .int v8), (0, .ref (ad 44)), (1, .int x1), (2, .int x2), (3, .int x3)]) hx hb dX1_isRest_57 hl (k := 4) rfl (by rw [ev8]; rfl) (by decide) rfl (fun ls hl => ?_)
            refine lv_goto (tgt := 9) hx hb dX1_isRest_60 (by decide) ?_
            exact ih x1 x2 x3 v8 hR _ _ _ w (lv_sub hl [1, 2, 3, 4, 0] rfl)
          · rw [if_neg c7] at hR
            refine lv_iconst (v := 0) hx hb dX1_isRest_55 (by decide) ?_
            rw [hQ]
            exact rt_i X hr hlk w hsz rfl rfl rfl (lf1 hR) dX1_isRest_56
  have hl : lv_has ls 5 [(0, .ref (ad 44)), (1, .int p1), (2, .int p2)] := hl
  unfold fX1_isRest at hR
  refine lv_iload_n hx hb dX1_isRest_0 rfl (lv_at hl 1 rfl) ?_
  refine lv_iconst (v := 4) hx hb dX1_isRest_1 (by decide) ?_
  refine lv_imul hx hb dX1_isRest_2 ?_
  refine lv_iload_n hx hb dX1_isRest_3 rfl (lv_at hl 2 rfl) ?_
  refine lv_iadd hx hb dX1_isRest_4 ?_
  obtain ⟨v1, ev1, hR⟩ := lt_e hR
  refine nm_i ev1 ?_
  refine lv_istore_n (lv' := [(3, .int v1), (0, .ref (ad 44)), (1, .int p1), (2, .int p2)]) hx hb dX1_isRest_5 rfl hl (by decide) rfl (fun ls hl => ?_)
  refine lv_iconst (v := 0) hx hb dX1_isRest_6 (by decide) ?_
  refine lv_istore (lv' := [(4, .int 0), (3, .int v1), (0, .ref (ad 44)), (1, .int p1), (2, .int p2)]) hx hb dX1_isRest_7 hl (by decide) rfl (fun ls hl => ?_)
  exact L9 N p1 p2 v1 0 hR _ _ _ w (lv_sub hl [2, 3, 4, 1, 0] rfl)
/- LooseEnds$Duel.countRests()I -/
def fX1_countRests_l11 (N : Nat) (kc4 : Int32 → Int32 → SS → Option (Int32)) : Nat → Int32 → Int32 → Int32 → SS → Option (Int32)
  | 0, _, _, _, _ => none
  | n + 1, x1, x2, x3, S => if 4 ≤ x3 then
  (lt (x2 + 1) fun v2 =>
  kc4 x1 v2 S)
  else
  (bd (fX1_isRest N S x2 x3) fun r4 =>
  if r4 = 0 then
  (lt (x3 + 1) fun v6 =>
  fX1_countRests_l11 N kc4 n x1 x2 v6 S)
  else
  (lt (x1 + 1) fun v7 =>
  lt (x3 + 1) fun v8 =>
  fX1_countRests_l11 N kc4 n v7 x2 v8 S))
def fX1_countRests_l4 (N : Nat) : Nat → Int32 → Int32 → SS → Option (Int32)
  | 0, _, _, _ => none
  | n + 1, x1, x2, S => if 4 ≤ x2 then
  (some x1)
  else
  (fX1_countRests_l11 N (fX1_countRests_l4 N n) N x1 x2 0 S)
def fX1_countRests (N : Nat) (S : SS) : Option (Int32) := fX1_countRests_l4 N N 0 0 S
set_option maxHeartbeats 4000000 in
set_option maxRecDepth 100000 in
theorem kX1_countRests {l : Launch} {D : va_G} {dA : Nat → ClassId} {ad : Nat → Nat} {t1 t2 : Nat} {N : Nat} {S T : SS} {o : Nat → Int64} {r : Int32} (hR : fX1_countRests N S = some r) : KI l D dA ad t1 t2 yX1_countRests cX1_countRests 4 .int { frames := 1, cells := 0, slots := 0, locals := 24 } [.ref (ad 44)] S T o r S T := by
  intro sz
  refine en_ (plainFor_of_name (by decide)) (Nat.le_of_ble_eq_true rfl) ?_
  intro p ev s m args below meth c QQ hQ hsz X hr hlk w ls hl
  have hx := X.1
  have hb := X.2.1
  have L11 : ∀ (kc4 : Int32 → Int32 → SS → Option (Int32)) (_ : ∀ (x1 : Int32) (x2 : Int32), kc4 x1 x2 S = some r → WAT p l ev ({ frames := 1, cells := 0, slots := 0, locals := 24 } : Room) s m args below meth c QQ 4 D dA ad t1 t2 S T o 4 [(0, .ref (ad 44)), (1, .int x1), (2, .int x2)] []) (n : Nat), ∀ (x1 : Int32) (x2 : Int32) (x3 : Int32), fX1_countRests_l11 N kc4 n x1 x2 x3 S = some r → WAT p l ev ({ frames := 1, cells := 0, slots := 0, locals := 24 } : Room) s m args below meth c QQ 4 D dA ad t1 t2 S T o 11 [(0, .ref (ad 44)), (1, .int x1), (2, .int x2), (3, .int x3)] [] := by
    intro kc4 hk4 n
    induction n with
    | zero =>
      intro x1 x2 x3 hR
      exact nomatch hR
    | succ n ih =>
      intro x1 x2 x3 hR H locs ls w hl
      rw [fX1_countRests_l11] at hR
      refine lv_iload_n hx hb dX1_countRests_11 rfl (lv_at hl 3 rfl) ?_
      refine lv_iconst (v := 4) hx hb dX1_countRests_12 (by decide) ?_
      refine lv_icmp_ge (tgt := 34) hx hb dX1_countRests_13 (by decide) (fun c1 => ?_) (fun c1 => ?_)
      · rw [if_pos c1] at hR
        obtain ⟨v2, ev2, hR⟩ := lt_e hR
        refine lv_iinc (v := v2) (lv' := [(2, .int v2), (0, .ref (ad 44)), (1, .int x1), (3, .int x3)]) hx hb dX1_countRests_34 hl (k := 2) rfl (by rw [ev2]; rfl) (by decide) rfl (fun ls hl => ?_)
        refine lv_goto (tgt := 4) hx hb dX1_countRests_37 (by decide) ?_
        exact hk4 x1 v2 hR _ _ _ w (lv_sub hl [1, 2, 0] rfl)
      · rw [if_neg c1] at hR
        refine lv_aload_n hx hb dX1_countRests_16 rfl (lv_at hl 0 rfl) ?_
        refine lv_iload_n hx hb dX1_countRests_17 rfl (lv_at hl 2 rfl) ?_
        refine lv_iload_n hx hb dX1_countRests_18 rfl (lv_at hl 3 rfl) ?_
        obtain ⟨r4, h3, hR⟩ := bd_e hR
        refine cVi (k := 44) (As := [.int x2, .int x3]) (rest := []) X hl.1 w okX1_isRest obX1 rfl lmX1_73 (kX1_isRest h3) ⟨Nat.le_of_ble_eq_true rfl, Nat.le_of_ble_eq_true rfl⟩ ⟨rfl, rfl⟩ ⟨Nat.zero_le _, Nat.zero_le _⟩ rfl rfl (Nat.le_of_ble_eq_true rfl) dX1_countRests_19 (fun H locs zr4 w => ?_)
        refine lv_if_eq (tgt := 28) hx hb dX1_countRests_22 (by decide) (fun c5 => ?_) (fun c5 => ?_)
        · rw [if_pos c5] at hR
          obtain ⟨v6, ev6, hR⟩ := lt_e hR
          refine lv_iinc (v := v6) (lv' := [(3, .int v6), (0, .ref (ad 44)), (1, .int x1), (2, .int x2)]) hx hb dX1_countRests_28 hl (k := 3) rfl (by rw [ev6]; rfl) (by decide) rfl (fun ls hl => ?_)
          refine lv_goto (tgt := 11) hx hb dX1_countRests_31 (by decide) ?_
          exact ih x1 x2 v6 hR _ _ _ w (lv_sub hl [1, 2, 3, 0] rfl)
        · rw [if_neg c5] at hR
          obtain ⟨v7, ev7, hR⟩ := lt_e hR
          refine lv_iinc (v := v7) (lv' := [(1, .int v7), (0, .ref (ad 44)), (2, .int x2), (3, .int x3)]) hx hb dX1_countRests_25 hl (k := 1) rfl (by rw [ev7]; rfl) (by decide) rfl (fun ls hl => ?_)
          obtain ⟨v8, ev8, hR⟩ := lt_e hR
          refine lv_iinc (v := v8) (lv' := [(3, .int v8), (1, .int v7), (0, .ref (ad 44)), (2, .int x2)]) hx hb dX1_countRests_28 hl (k := 3) rfl (by rw [ev8]; rfl) (by decide) rfl (fun ls hl => ?_)
          refine lv_goto (tgt := 11) hx hb dX1_countRests_31 (by decide) ?_
          exact ih v7 x2 v8 hR _ _ _ w (lv_sub hl [2, 1, 3, 0] rfl)
  have L4 : ∀ (n : Nat), ∀ (x1 : Int32) (x2 : Int32), fX1_countRests_l4 N n x1 x2 S = some r → WAT p l ev ({ frames := 1, cells := 0, slots := 0, locals := 24 } : Room) s m args below meth c QQ 4 D dA ad t1 t2 S T o 4 [(0, .ref (ad 44)), (1, .int x1), (2, .int x2)] [] := by
    intro n
    induction n with
    | zero =>
      intro x1 x2 hR
      exact nomatch hR
    | succ n ih =>
      intro x1 x2 hR H locs ls w hl
      rw [fX1_countRests_l4] at hR
      refine lv_iload_n hx hb dX1_countRests_4 rfl (lv_at hl 2 rfl) ?_
      refine lv_iconst (v := 4) hx hb dX1_countRests_5 (by decide) ?_
      refine lv_icmp_ge (tgt := 40) hx hb dX1_countRests_6 (by decide) (fun c1 => ?_) (fun c1 => ?_)
      · rw [if_pos c1] at hR
        refine lv_iload_n hx hb dX1_countRests_40 rfl (lv_at hl 1 rfl) ?_
        rw [hQ]
        exact rt_i X hr hlk w hsz rfl rfl rfl (lf1 hR) dX1_countRests_41
      · rw [if_neg c1] at hR
        refine lv_iconst (v := 0) hx hb dX1_countRests_9 (by decide) ?_
        refine lv_istore_n (lv' := [(3, .int 0), (0, .ref (ad 44)), (1, .int x1), (2, .int x2)]) hx hb dX1_countRests_10 rfl hl (by decide) rfl (fun ls hl => ?_)
        exact L11 _ ih N x1 x2 0 hR _ _ _ w (lv_sub hl [1, 2, 3, 0] rfl)
  have hl : lv_has ls 4 [(0, .ref (ad 44))] := hl
  unfold fX1_countRests at hR
  refine lv_iconst (v := 0) hx hb dX1_countRests_0 (by decide) ?_
  refine lv_istore_n (lv' := [(1, .int 0), (0, .ref (ad 44))]) hx hb dX1_countRests_1 rfl hl (by decide) rfl (fun ls hl => ?_)
  refine lv_iconst (v := 0) hx hb dX1_countRests_2 (by decide) ?_
  refine lv_istore_n (lv' := [(2, .int 0), (1, .int 0), (0, .ref (ad 44))]) hx hb dX1_countRests_3 rfl hl (by decide) rfl (fun ls hl => ?_)
  exact L4 N 0 0 hR _ _ _ w (lv_sub hl [2, 1, 0] rfl)
/- LooseEnds$Duel.restAt(I)I -/
def fX1_restAt_l12 (N : Nat) (kc4 : Int32 → Int32 → SS → Option (Int32)) : Nat → Int32 → Int32 → Int32 → SS → Option (Int32)
  | 0, _, _, _, _ => none
  | n + 1, x2, x3, x4, S => if 4 ≤ x4 then
  (lt (x3 + 1) fun v2 =>
  kc4 x2 v2 S)
  else
  (bd (fX1_isRest N S x3 x4) fun r4 =>
  if r4 = 0 then
  (lt (x4 + 1) fun v6 =>
  fX1_restAt_l12 N kc4 n x2 x3 v6 S)
  else
  (if x2 = 0 then
  (some ((x3 * 10) + x4))
  else
  (lt (x2 + (-1)) fun v8 =>
  lt (x4 + 1) fun v9 =>
  fX1_restAt_l12 N kc4 n v8 x3 v9 S)))
def fX1_restAt_l4 (N : Nat) : Nat → Int32 → Int32 → SS → Option (Int32)
  | 0, _, _, _ => none
  | n + 1, x2, x3, S => if 4 ≤ x3 then
  (some (-1))
  else
  (fX1_restAt_l12 N (fX1_restAt_l4 N n) N x2 x3 0 S)
def fX1_restAt (N : Nat) (S : SS) (p1 : Int32) : Option (Int32) := fX1_restAt_l4 N N p1 0 S
set_option maxHeartbeats 4000000 in
set_option maxRecDepth 100000 in
theorem kX1_restAt {l : Launch} {D : va_G} {dA : Nat → ClassId} {ad : Nat → Nat} {t1 t2 : Nat} {N : Nat} {S T : SS} {o : Nat → Int64} {p1 : Int32} {r : Int32} (hR : fX1_restAt N S p1 = some r) : KI l D dA ad t1 t2 yX1_restAt cX1_restAt 5 .int { frames := 1, cells := 0, slots := 0, locals := 24 } [.ref (ad 44), .int p1] S T o r S T := by
  intro sz
  refine en_ (plainFor_of_name (by decide)) (Nat.le_of_ble_eq_true rfl) ?_
  intro p ev s m args below meth c QQ hQ hsz X hr hlk w ls hl
  have hx := X.1
  have hb := X.2.1
  have L12 : ∀ (kc4 : Int32 → Int32 → SS → Option (Int32)) (_ : ∀ (x2 : Int32) (x3 : Int32), kc4 x2 x3 S = some r → WAT p l ev ({ frames := 1, cells := 0, slots := 0, locals := 24 } : Room) s m args below meth c QQ 5 D dA ad t1 t2 S T o 4 [(0, .ref (ad 44)), (2, .int x2), (3, .int x3)] []) (n : Nat), ∀ (x2 : Int32) (x3 : Int32) (x4 : Int32), fX1_restAt_l12 N kc4 n x2 x3 x4 S = some r → WAT p l ev ({ frames := 1, cells := 0, slots := 0, locals := 24 } : Room) s m args below meth c QQ 5 D dA ad t1 t2 S T o 12 [(0, .ref (ad 44)), (2, .int x2), (3, .int x3), (4, .int x4)] [] := by
    intro kc4 hk4 n
    induction n with
    | zero =>
      intro x2 x3 x4 hR
      exact nomatch hR
    | succ n ih =>
      intro x2 x3 x4 hR H locs ls w hl
      rw [fX1_restAt_l12] at hR
      refine lv_iload hx hb dX1_restAt_12 (lv_at hl 3 rfl) ?_
      refine lv_iconst (v := 4) hx hb dX1_restAt_14 (by decide) ?_
      refine lv_icmp_ge (tgt := 49) hx hb dX1_restAt_15 (by decide) (fun c1 => ?_) (fun c1 => ?_)
      · rw [if_pos c1] at hR
        obtain ⟨v2, ev2, hR⟩ := lt_e hR
        refine lv_iinc (v := v2) (lv' := [(3, .int v2), (0, .ref (ad 44)), (2, .int x2), (4, .int x4)]) hx hb dX1_restAt_49 hl (k := 2) rfl (by rw [ev2]; rfl) (by decide) rfl (fun ls hl => ?_)
        refine lv_goto (tgt := 4) hx hb dX1_restAt_52 (by decide) ?_
        exact hk4 x2 v2 hR _ _ _ w (lv_sub hl [1, 2, 0] rfl)
      · rw [if_neg c1] at hR
        refine lv_aload_n hx hb dX1_restAt_18 rfl (lv_at hl 0 rfl) ?_
        refine lv_iload_n hx hb dX1_restAt_19 rfl (lv_at hl 2 rfl) ?_
        refine lv_iload hx hb dX1_restAt_20 (lv_at hl 3 rfl) ?_
        obtain ⟨r4, h3, hR⟩ := bd_e hR
        refine cVi (k := 44) (As := [.int x3, .int x4]) (rest := []) X hl.1 w okX1_isRest obX1 rfl lmX1_73 (kX1_isRest h3) ⟨Nat.le_of_ble_eq_true rfl, Nat.le_of_ble_eq_true rfl⟩ ⟨rfl, rfl⟩ ⟨Nat.zero_le _, Nat.zero_le _⟩ rfl rfl (Nat.le_of_ble_eq_true rfl) dX1_restAt_22 (fun H locs zr4 w => ?_)
        refine lv_if_eq (tgt := 43) hx hb dX1_restAt_25 (by decide) (fun c5 => ?_) (fun c5 => ?_)
        · rw [if_pos c5] at hR
          obtain ⟨v6, ev6, hR⟩ := lt_e hR
          refine lv_iinc (v := v6) (lv' := [(4, .int v6), (0, .ref (ad 44)), (2, .int x2), (3, .int x3)]) hx hb dX1_restAt_43 hl (k := 3) rfl (by rw [ev6]; rfl) (by decide) rfl (fun ls hl => ?_)
          refine lv_goto (tgt := 12) hx hb dX1_restAt_46 (by decide) ?_
          exact ih x2 x3 v6 hR _ _ _ w (lv_sub hl [1, 2, 3, 0] rfl)
        · rw [if_neg c5] at hR
          refine lv_iload_n hx hb dX1_restAt_28 rfl (lv_at hl 1 rfl) ?_
          refine lv_if_ne (tgt := 40) hx hb dX1_restAt_29 (by decide) (fun c7 => ?_) (fun c7 => ?_)
          · rw [if_neg c7] at hR
            obtain ⟨v8, ev8, hR⟩ := lt_e hR
            refine lv_iinc (v := v8) (lv' := [(2, .int v8), (0, .ref (ad 44)), (3, .int x3), (4, .int x4)]) hx hb dX1_restAt_40 hl (k := 1) rfl (by rw [ev8]; rfl) (by decide) rfl (fun ls hl => ?_)
            obtain ⟨v9, ev9, hR⟩ := lt_e hR
            refine lv_iinc (v := v9) (lv' := [(4, .int v9), (2, .int v8), (0, .ref (ad 44)), (3, .int x3)]) hx hb dX1_restAt_43 hl (k := 3) rfl (by rw [ev9]; rfl) (by decide) rfl (fun ls hl => ?_)
            refine lv_goto (tgt := 12) hx hb dX1_restAt_46 (by decide) ?_
            exact ih v8 x3 v9 hR _ _ _ w (lv_sub hl [2, 1, 3, 0] rfl)
          · rw [if_pos c7] at hR
            refine lv_iload_n hx hb dX1_restAt_32 rfl (lv_at hl 2 rfl) ?_
            refine lv_bipush (v := 10) hx hb dX1_restAt_33 (by decide) ?_
            refine lv_imul hx hb dX1_restAt_35 ?_
            refine lv_iload hx hb dX1_restAt_36 (lv_at hl 3 rfl) ?_
            refine lv_iadd hx hb dX1_restAt_38 ?_
            rw [hQ]
            exact rt_i X hr hlk w hsz rfl rfl rfl (lf1 hR) dX1_restAt_39
  have L4 : ∀ (n : Nat), ∀ (x2 : Int32) (x3 : Int32), fX1_restAt_l4 N n x2 x3 S = some r → WAT p l ev ({ frames := 1, cells := 0, slots := 0, locals := 24 } : Room) s m args below meth c QQ 5 D dA ad t1 t2 S T o 4 [(0, .ref (ad 44)), (2, .int x2), (3, .int x3)] [] := by
    intro n
    induction n with
    | zero =>
      intro x2 x3 hR
      exact nomatch hR
    | succ n ih =>
      intro x2 x3 hR H locs ls w hl
      rw [fX1_restAt_l4] at hR
      refine lv_iload_n hx hb dX1_restAt_4 rfl (lv_at hl 2 rfl) ?_
      refine lv_iconst (v := 4) hx hb dX1_restAt_5 (by decide) ?_
      refine lv_icmp_ge (tgt := 55) hx hb dX1_restAt_6 (by decide) (fun c1 => ?_) (fun c1 => ?_)
      · rw [if_pos c1] at hR
        refine lv_iconst (v := -1) hx hb dX1_restAt_55 (by decide) ?_
        rw [hQ]
        exact rt_i X hr hlk w hsz rfl rfl rfl (lf1 hR) dX1_restAt_56
      · rw [if_neg c1] at hR
        refine lv_iconst (v := 0) hx hb dX1_restAt_9 (by decide) ?_
        refine lv_istore (lv' := [(4, .int 0), (0, .ref (ad 44)), (2, .int x2), (3, .int x3)]) hx hb dX1_restAt_10 hl (by decide) rfl (fun ls hl => ?_)
        exact L12 _ ih N x2 x3 0 hR _ _ _ w (lv_sub hl [1, 2, 3, 0] rfl)
  have hl : lv_has ls 5 [(0, .ref (ad 44)), (1, .int p1)] := hl
  unfold fX1_restAt at hR
  refine lv_iload_n hx hb dX1_restAt_0 rfl (lv_at hl 1 rfl) ?_
  refine lv_istore_n (lv' := [(2, .int p1), (0, .ref (ad 44)), (1, .int p1)]) hx hb dX1_restAt_1 rfl hl (by decide) rfl (fun ls hl => ?_)
  refine lv_iconst (v := 0) hx hb dX1_restAt_2 (by decide) ?_
  refine lv_istore_n (lv' := [(3, .int 0), (2, .int p1), (0, .ref (ad 44)), (1, .int p1)]) hx hb dX1_restAt_3 rfl hl (by decide) rfl (fun ls hl => ?_)
  exact L4 N p1 0 hR _ _ _ w (lv_sub hl [2, 1, 0] rfl)
/- LooseEnds$Tape.sign()I -/
def fX9_sign_j38 (N : Nat) (S : SS) : Option (SS × Int32) := if (gi S 1 1) ≤ (gi S 1 2) then
  (some (S, (-1)))
  else
  (ck (inb (gi S 1 2) 240) <|
  some (S, ga S 2 (gi S 1 2)))
def fX9_sign_l0 (N : Nat) : Nat → SS → Option (SS × Int32)
  | 0, _ => none
  | n + 1, S => if (gi S 1 1) ≤ (gi S 1 2) then
  (fX9_sign_j38 N S)
  else
  (ck (inb (gi S 1 2) 240) <|
  if (ga S 2 (gi S 1 2)) = 32 then
  (lt (pj S 1 2 ((gi S 1 2) + 1)) fun S4 =>
  fX9_sign_l0 N n S4)
  else
  (fX9_sign_j38 N S))
def fX9_sign (N : Nat) (S : SS) : Option (SS × Int32) := fX9_sign_l0 N N S
set_option maxHeartbeats 4000000 in
set_option maxRecDepth 100000 in
theorem kX9_sign {l : Launch} {D : va_G} {dA : Nat → ClassId} {ad : Nat → Nat} {t1 t2 : Nat} {N : Nat} {S T : SS} {o : Nat → Int64} {r : Int32} {S' : SS} (hR : fX9_sign N S = some (S', r)) : KI l D dA ad t1 t2 yX9_sign cX9_sign 1 .int { frames := 0, cells := 0, slots := 0, locals := 0 } [.ref (ad 1)] S T o r S' T := by
  intro sz
  refine en_ (plainFor_of_name (by decide)) (Nat.le_of_ble_eq_true rfl) ?_
  intro p ev s m args below meth c QQ hQ hsz X hr hlk w ls hl
  have hx := X.1
  have hb := X.2.1
  have J38 : ∀ (S : SS), fX9_sign_j38 N S = some (S', r) → WAT p l ev ({ frames := 0, cells := 0, slots := 0, locals := 0 } : Room) s m args below meth c QQ 1 D dA ad t1 t2 S T o 38 [(0, .ref (ad 1))] [] := by
    intro S hR H locs ls w hl
    unfold fX9_sign_j38 at hR
    refine lv_aload_n hx hb dX9_sign_38 rfl (lv_at hl 0 rfl) ?_
    refine gX9_at X w lfX9_19 dX9_sign_39 ?_
    refine lv_aload_n hx hb dX9_sign_42 rfl (lv_at hl 0 rfl) ?_
    refine gX9_length X w lfX9_15 dX9_sign_43 ?_
    refine lv_icmp_ge (tgt := 61) hx hb dX9_sign_46 (by decide) (fun c1 => ?_) (fun c1 => ?_)
    · rw [if_pos c1] at hR
      refine lv_iconst (v := -1) hx hb dX9_sign_61 (by decide) ?_
      rw [hQ]
      exact rt_i X hr hlk w hsz rfl (lf2 hR).1 rfl (lf2 hR).2 dX9_sign_62
    · rw [if_neg c1] at hR
      refine lv_aload_n hx hb dX9_sign_49 rfl (lv_at hl 0 rfl) ?_
      refine gX9_bytes X w lfX9_9 dX9_sign_50 ?_
      refine lv_aload_n hx hb dX9_sign_53 rfl (lv_at hl 0 rfl) ?_
      refine gX9_at X w lfX9_19 dX9_sign_54 ?_
      obtain ⟨g2, hR⟩ := ck_e hR
      refine ialS (n := 240) rfl (by decide) X w rfl g2 dX9_sign_57 ?_
      refine lv_goto (tgt := 62) hx hb dX9_sign_58 (by decide) ?_
      rw [hQ]
      exact rt_i X hr hlk w hsz rfl (lf2 hR).1 rfl (lf2 hR).2 dX9_sign_62
  have L0 : ∀ (n : Nat), ∀ (S : SS), fX9_sign_l0 N n S = some (S', r) → WAT p l ev ({ frames := 0, cells := 0, slots := 0, locals := 0 } : Room) s m args below meth c QQ 1 D dA ad t1 t2 S T o 0 [(0, .ref (ad 1))] [] := by
    intro n
    induction n with
    | zero =>
      intro S hR
      exact nomatch hR
    | succ n ih =>
      intro S hR H locs ls w hl
      rw [fX9_sign_l0] at hR
      refine lv_aload_n hx hb dX9_sign_0 rfl (lv_at hl 0 rfl) ?_
      refine gX9_at X w lfX9_19 dX9_sign_1 ?_
      refine lv_aload_n hx hb dX9_sign_4 rfl (lv_at hl 0 rfl) ?_
      refine gX9_length X w lfX9_15 dX9_sign_5 ?_
      refine lv_icmp_ge (tgt := 38) hx hb dX9_sign_8 (by decide) (fun c1 => ?_) (fun c1 => ?_)
      · rw [if_pos c1] at hR
        exact J38 S hR _ _ _ w (lv_sub hl [0] rfl)
      · rw [if_neg c1] at hR
        refine lv_aload_n hx hb dX9_sign_11 rfl (lv_at hl 0 rfl) ?_
        refine gX9_bytes X w lfX9_9 dX9_sign_12 ?_
        refine lv_aload_n hx hb dX9_sign_15 rfl (lv_at hl 0 rfl) ?_
        refine gX9_at X w lfX9_19 dX9_sign_16 ?_
        obtain ⟨g2, hR⟩ := ck_e hR
        refine ialS (n := 240) rfl (by decide) X w rfl g2 dX9_sign_19 ?_
        refine lv_bipush (v := 32) hx hb dX9_sign_20 (by decide) ?_
        refine lv_icmp_ne (tgt := 38) hx hb dX9_sign_22 (by decide) (fun c3 => ?_) (fun c3 => ?_)
        · rw [if_neg c3] at hR
          exact J38 S hR _ _ _ w (lv_sub hl [0] rfl)
        · rw [if_pos c3] at hR
          refine lv_aload_n hx hb dX9_sign_25 rfl (lv_at hl 0 rfl) ?_
          refine lv_dup hx hb dX9_sign_26 rfl ?_
          refine gX9_at X w lfX9_19 dX9_sign_27 ?_
          refine lv_iconst (v := 1) hx hb dX9_sign_30 (by decide) ?_
          refine lv_iadd hx hb dX9_sign_31 ?_
          obtain ⟨S4, eS4, hR⟩ := lt_e hR
          refine pX9_at X w lfX9_19 dX9_sign_32 (fun H locs w => ?_)
          rw [← eS4] at w
          refine lv_goto (tgt := 0) hx hb dX9_sign_35 (by decide) ?_
          exact ih S4 hR _ _ _ w (lv_sub hl [0] rfl)
  have hl : lv_has ls 1 [(0, .ref (ad 1))] := hl
  unfold fX9_sign at hR
  exact L0 N S hR _ _ _ w (lv_sub hl [0] rfl)
