/- LooseEndsModel.in(III)Z -/
def fX12_in (N : Nat) (p0 : Int32) (p1 : Int32) (p2 : Int32) : Option (Int32) := if p0 < p1 then
  (some 0)
  else
  (if p2 < p0 then
  (some 0)
  else
  (some 1))
set_option maxHeartbeats 4000000 in
set_option maxRecDepth 100000 in
theorem kX12_in {l : Launch} {D : va_G} {dA : Nat → ClassId} {ad : Nat → Nat} {t1 t2 : Nat} {N : Nat} {S T : SS} {o : Nat → Int64} {p0 : Int32} {p1 : Int32} {p2 : Int32} {r : Int32} (hR : fX12_in N p0 p1 p2 = some r) : KI l D dA ad t1 t2 yX12_in cX12_in 3 .boolean { frames := 0, cells := 0, slots := 0, locals := 0 } [.int p0, .int p1, .int p2] S T o r S T := by
  intro sz
  refine en_ (plainFor_of_name (by decide)) (Nat.le_of_ble_eq_true rfl) ?_
  intro p ev s m args below meth c QQ hQ hsz X hr hlk w ls hl
  have hx := X.1
  have hb := X.2.1
  have hl : lv_has ls 3 [(0, .int p0), (1, .int p1), (2, .int p2)] := hl
  unfold fX12_in at hR
  refine lv_iload_n hx hb dX12_in_0 rfl (lv_at hl 0 rfl) ?_
  refine lv_iload_n hx hb dX12_in_1 rfl (lv_at hl 1 rfl) ?_
  refine lv_icmp_lt (tgt := 14) hx hb dX12_in_2 (by decide) (fun c1 => ?_) (fun c1 => ?_)
  · rw [if_pos c1] at hR
    refine lv_iconst (v := 0) hx hb dX12_in_14 (by decide) ?_
    rw [hQ]
    exact rt_i X hr hlk w hsz rfl rfl rfl (lf1 hR) dX12_in_15
  · rw [if_neg c1] at hR
    refine lv_iload_n hx hb dX12_in_5 rfl (lv_at hl 0 rfl) ?_
    refine lv_iload_n hx hb dX12_in_6 rfl (lv_at hl 2 rfl) ?_
    refine lv_icmp_gt (tgt := 14) hx hb dX12_in_7 (by decide) (fun c2 => ?_) (fun c2 => ?_)
    · rw [if_pos c2] at hR
      refine lv_iconst (v := 0) hx hb dX12_in_14 (by decide) ?_
      rw [hQ]
      exact rt_i X hr hlk w hsz rfl rfl rfl (lf1 hR) dX12_in_15
    · rw [if_neg c2] at hR
      refine lv_iconst (v := 1) hx hb dX12_in_10 (by decide) ?_
      refine lv_goto (tgt := 15) hx hb dX12_in_11 (by decide) ?_
      rw [hQ]
      exact rt_i X hr hlk w hsz rfl rfl rfl (lf1 hR) dX12_in_15
/- LooseEndsModel.has(II)Z -/
def fX12_has (N : Nat) (p0 : Int32) (p1 : Int32) : Option (Int32) := if ((sr p0 p1) &&& 1) = 1 then
  (some 1)
  else
  (some 0)
set_option maxHeartbeats 4000000 in
set_option maxRecDepth 100000 in
theorem kX12_has {l : Launch} {D : va_G} {dA : Nat → ClassId} {ad : Nat → Nat} {t1 t2 : Nat} {N : Nat} {S T : SS} {o : Nat → Int64} {p0 : Int32} {p1 : Int32} {r : Int32} (hR : fX12_has N p0 p1 = some r) : KI l D dA ad t1 t2 yX12_has cX12_has 2 .boolean { frames := 0, cells := 0, slots := 0, locals := 0 } [.int p0, .int p1] S T o r S T := by
  intro sz
  refine en_ (plainFor_of_name (by decide)) (Nat.le_of_ble_eq_true rfl) ?_
  intro p ev s m args below meth c QQ hQ hsz X hr hlk w ls hl
  have hx := X.1
  have hb := X.2.1
  have hl : lv_has ls 2 [(0, .int p0), (1, .int p1)] := hl
  unfold fX12_has at hR
  refine lv_iload_n hx hb dX12_has_0 rfl (lv_at hl 0 rfl) ?_
  refine lv_iload_n hx hb dX12_has_1 rfl (lv_at hl 1 rfl) ?_
  refine lv_ishr hx hb dX12_has_2 ?_
  refine lv_iconst (v := 1) hx hb dX12_has_3 (by decide) ?_
  refine lv_iand hx hb dX12_has_4 ?_
  refine lv_iconst (v := 1) hx hb dX12_has_5 (by decide) ?_
  refine lv_icmp_ne (tgt := 13) hx hb dX12_has_6 (by decide) (fun c1 => ?_) (fun c1 => ?_)
  · rw [if_neg c1] at hR
    refine lv_iconst (v := 0) hx hb dX12_has_13 (by decide) ?_
    rw [hQ]
    exact rt_i X hr hlk w hsz rfl rfl rfl (lf1 hR) dX12_has_14
  · rw [if_pos c1] at hR
    refine lv_iconst (v := 1) hx hb dX12_has_9 (by decide) ?_
    refine lv_goto (tgt := 14) hx hb dX12_has_10 (by decide) ?_
    rw [hQ]
    exact rt_i X hr hlk w hsz rfl rfl rfl (lf1 hR) dX12_has_14
/- LooseEndsModel.thrown()I -/
def fX12_thrown (N : Nat) (T : SS) : Option (Int32) := some (gi T 52 0)
set_option maxHeartbeats 4000000 in
set_option maxRecDepth 100000 in
theorem kX12_thrown {l : Launch} {D : va_G} {dA : Nat → ClassId} {ad : Nat → Nat} {t1 t2 : Nat} {N : Nat} {S T : SS} {o : Nat → Int64} {r : Int32} (hR : fX12_thrown N T = some r) : KI l D dA ad t1 t2 yX12_thrown cX12_thrown 1 .int { frames := 0, cells := 0, slots := 0, locals := 0 } [.ref (ad 52)] S T o r S T := by
  intro sz
  refine en_ (plainFor_of_name (by decide)) (Nat.le_of_ble_eq_true rfl) ?_
  intro p ev s m args below meth c QQ hQ hsz X hr hlk w ls hl
  have hx := X.1
  have hb := X.2.1
  have hl : lv_has ls 1 [(0, .ref (ad 52))] := hl
  unfold fX12_thrown at hR
  refine lv_aload_n hx hb dX12_thrown_0 rfl (lv_at hl 0 rfl) ?_
  refine gX12_thrown X w lfX12_93 dX12_thrown_1 ?_
  rw [hQ]
  exact rt_i X hr hlk w hsz rfl rfl rfl (lf1 hR) dX12_thrown_4
/- LooseEndsModel.byteOf(IIIIII)I -/
def fX12_byteOf_j45 (N : Nat) (x5 : Int32) (y0 : Int32) : Option (Int32) := some ((sr y0 (24 - (8 * (ir x5 4)))) &&& 255)
def fX12_byteOf (N : Nat) (p0 : Int32) (p1 : Int32) (p2 : Int32) (p3 : Int32) (p4 : Int32) (p5 : Int32) : Option (Int32) := if 4 ≤ p5 then
  (if 8 ≤ p5 then
  (if 12 ≤ p5 then
  (if 16 ≤ p5 then
  (fX12_byteOf_j45 N p5 p4)
  else
  (fX12_byteOf_j45 N p5 p3))
  else
  (fX12_byteOf_j45 N p5 p2))
  else
  (fX12_byteOf_j45 N p5 p1))
  else
  (fX12_byteOf_j45 N p5 p0)
set_option maxHeartbeats 4000000 in
set_option maxRecDepth 100000 in
theorem kX12_byteOf {l : Launch} {D : va_G} {dA : Nat → ClassId} {ad : Nat → Nat} {t1 t2 : Nat} {N : Nat} {S T : SS} {o : Nat → Int64} {p0 : Int32} {p1 : Int32} {p2 : Int32} {p3 : Int32} {p4 : Int32} {p5 : Int32} {r : Int32} (hR : fX12_byteOf N p0 p1 p2 p3 p4 p5 = some r) : KI l D dA ad t1 t2 yX12_byteOf cX12_byteOf 7 .int { frames := 0, cells := 0, slots := 0, locals := 0 } [.int p0, .int p1, .int p2, .int p3, .int p4, .int p5] S T o r S T := by
  intro sz
  refine en_ (plainFor_of_name (by decide)) (Nat.le_of_ble_eq_true rfl) ?_
  intro p ev s m args below meth c QQ hQ hsz X hr hlk w ls hl
  have hx := X.1
  have hb := X.2.1
  have J45 : ∀ (x5 : Int32) (y0 : Int32), fX12_byteOf_j45 N x5 y0 = some r → WAT p l ev ({ frames := 0, cells := 0, slots := 0, locals := 0 } : Room) s m args below meth c QQ 7 D dA ad t1 t2 S T o 45 [(5, .int x5)] [.int y0] := by
    intro x5 y0 hR H locs ls w hl
    unfold fX12_byteOf_j45 at hR
    refine lv_istore (lv' := [(6, .int y0), (5, .int x5)]) hx hb dX12_byteOf_45 hl (by decide) rfl (fun ls hl => ?_)
    refine lv_iload hx hb dX12_byteOf_47 (lv_at hl 0 rfl) ?_
    refine lv_bipush (v := 24) hx hb dX12_byteOf_49 (by decide) ?_
    refine lv_bipush (v := 8) hx hb dX12_byteOf_51 (by decide) ?_
    refine lv_iload hx hb dX12_byteOf_53 (lv_at hl 1 rfl) ?_
    refine lv_iconst (v := 4) hx hb dX12_byteOf_55 (by decide) ?_
    refine lv_irem hx hb dX12_byteOf_56 (by decide) ?_
    refine lv_imul hx hb dX12_byteOf_57 ?_
    refine lv_isub hx hb dX12_byteOf_58 ?_
    refine lv_ishr hx hb dX12_byteOf_59 ?_
    refine lv_sipush (v := 255) hx hb dX12_byteOf_60 (by decide) ?_
    refine lv_iand hx hb dX12_byteOf_63 ?_
    rw [hQ]
    exact rt_i X hr hlk w hsz rfl rfl rfl (lf1 hR) dX12_byteOf_64
  have hl : lv_has ls 7 [(0, .int p0), (1, .int p1), (2, .int p2), (3, .int p3), (4, .int p4), (5, .int p5)] := hl
  unfold fX12_byteOf at hR
  refine lv_iload hx hb dX12_byteOf_0 (lv_at hl 5 rfl) ?_
  refine lv_iconst (v := 4) hx hb dX12_byteOf_2 (by decide) ?_
  refine lv_icmp_ge (tgt := 10) hx hb dX12_byteOf_3 (by decide) (fun c1 => ?_) (fun c1 => ?_)
  · rw [if_pos c1] at hR
    refine lv_iload hx hb dX12_byteOf_10 (lv_at hl 5 rfl) ?_
    refine lv_bipush (v := 8) hx hb dX12_byteOf_12 (by decide) ?_
    refine lv_icmp_ge (tgt := 21) hx hb dX12_byteOf_14 (by decide) (fun c2 => ?_) (fun c2 => ?_)
    · rw [if_pos c2] at hR
      refine lv_iload hx hb dX12_byteOf_21 (lv_at hl 5 rfl) ?_
      refine lv_bipush (v := 12) hx hb dX12_byteOf_23 (by decide) ?_
      refine lv_icmp_ge (tgt := 32) hx hb dX12_byteOf_25 (by decide) (fun c3 => ?_) (fun c3 => ?_)
      · rw [if_pos c3] at hR
        refine lv_iload hx hb dX12_byteOf_32 (lv_at hl 5 rfl) ?_
        refine lv_bipush (v := 16) hx hb dX12_byteOf_34 (by decide) ?_
        refine lv_icmp_ge (tgt := 43) hx hb dX12_byteOf_36 (by decide) (fun c4 => ?_) (fun c4 => ?_)
        · rw [if_pos c4] at hR
          refine lv_iload hx hb dX12_byteOf_43 (lv_at hl 4 rfl) ?_
          exact J45 p5 p4 hR _ _ _ w (lv_sub hl [5] rfl)
        · rw [if_neg c4] at hR
          refine lv_iload_n hx hb dX12_byteOf_39 rfl (lv_at hl 3 rfl) ?_
          refine lv_goto (tgt := 45) hx hb dX12_byteOf_40 (by decide) ?_
          exact J45 p5 p3 hR _ _ _ w (lv_sub hl [5] rfl)
      · rw [if_neg c3] at hR
        refine lv_iload_n hx hb dX12_byteOf_28 rfl (lv_at hl 2 rfl) ?_
        refine lv_goto (tgt := 45) hx hb dX12_byteOf_29 (by decide) ?_
        exact J45 p5 p2 hR _ _ _ w (lv_sub hl [5] rfl)
    · rw [if_neg c2] at hR
      refine lv_iload_n hx hb dX12_byteOf_17 rfl (lv_at hl 1 rfl) ?_
      refine lv_goto (tgt := 45) hx hb dX12_byteOf_18 (by decide) ?_
      exact J45 p5 p1 hR _ _ _ w (lv_sub hl [5] rfl)
  · rw [if_neg c1] at hR
    refine lv_iload_n hx hb dX12_byteOf_6 rfl (lv_at hl 0 rfl) ?_
    refine lv_goto (tgt := 45) hx hb dX12_byteOf_7 (by decide) ?_
    exact J45 p5 p0 hR _ _ _ w (lv_sub hl [5] rfl)
/- LooseEndsModel.feed(IIIII)I -/
def fX12_feed_l62 (N : Nat) : Nat → Int32 → Int32 → Int32 → Int32 → Int32 → Int32 → SS → Option (SS × Int32)
  | 0, _, _, _, _, _, _, _ => none
  | n + 1, x1, x2, x3, x4, x5, x7, T => if 20 ≤ x7 then
  (some (T, gi T 52 2))
  else
  (bd (fX12_byteOf N x1 x2 x3 x4 x5 x7) fun r3 =>
  if r3 = 0 then
  (lt (x7 + 1) fun v5 =>
  fX12_feed_l62 N n x1 x2 x3 x4 x5 v5 T)
  else
  (ck (inb (gi T 52 2) 240) <|
  lt (pa T 53 (gi T 52 2) r3) fun T7 =>
  lt (pj T7 52 2 ((gi T7 52 2) + 1)) fun T8 =>
  lt (x7 + 1) fun v9 =>
  fX12_feed_l62 N n x1 x2 x3 x4 x5 v9 T8))
def fX12_feed_l6 (N : Nat) : Nat → Int32 → Int32 → Int32 → Int32 → Int32 → Int32 → Int32 → SS → Option (SS × Int32)
  | 0, _, _, _, _, _, _, _, _ => none
  | n + 1, x1, x2, x3, x4, x5, x6, x7, T => if 20 ≤ x7 then
  (if ((gi T 52 2) + x6) ≤ 240 then
  (fX12_feed_l62 N N x1 x2 x3 x4 x5 0 T)
  else
  (some (T, (-1))))
  else
  (bd (fX12_byteOf N x1 x2 x3 x4 x5 x7) fun r4 =>
  if r4 = 0 then
  (lt (x6 + 0) fun v6 =>
  lt (x7 + 1) fun v7 =>
  fX12_feed_l6 N n x1 x2 x3 x4 x5 v6 v7 T)
  else
  (lt (x6 + 1) fun v8 =>
  lt (x7 + 1) fun v9 =>
  fX12_feed_l6 N n x1 x2 x3 x4 x5 v8 v9 T))
def fX12_feed (N : Nat) (T : SS) (p1 : Int32) (p2 : Int32) (p3 : Int32) (p4 : Int32) (p5 : Int32) : Option (SS × Int32) := fX12_feed_l6 N N p1 p2 p3 p4 p5 0 0 T
set_option maxHeartbeats 4000000 in
set_option maxRecDepth 100000 in
theorem kX12_feed {l : Launch} {D : va_G} {dA : Nat → ClassId} {ad : Nat → Nat} {t1 t2 : Nat} {N : Nat} {S T : SS} {o : Nat → Int64} {p1 : Int32} {p2 : Int32} {p3 : Int32} {p4 : Int32} {p5 : Int32} {r : Int32} {T' : SS} (hR : fX12_feed N T p1 p2 p3 p4 p5 = some (T', r)) : KI l D dA ad t1 t2 yX12_feed cX12_feed 9 .int { frames := 1, cells := 0, slots := 0, locals := 26 } [.ref (ad 52), .int p1, .int p2, .int p3, .int p4, .int p5] S T o r S T' := by
  intro sz
  refine en_ (plainFor_of_name (by decide)) (Nat.le_of_ble_eq_true rfl) ?_
  intro p ev s m args below meth c QQ hQ hsz X hr hlk w ls hl
  have hx := X.1
  have hb := X.2.1
  have L62 : ∀ (n : Nat), ∀ (x1 : Int32) (x2 : Int32) (x3 : Int32) (x4 : Int32) (x5 : Int32) (x7 : Int32) (T : SS), fX12_feed_l62 N n x1 x2 x3 x4 x5 x7 T = some (T', r) → WAT p l ev ({ frames := 1, cells := 0, slots := 0, locals := 26 } : Room) s m args below meth c QQ 9 D dA ad t1 t2 S T o 62 [(0, .ref (ad 52)), (1, .int x1), (2, .int x2), (3, .int x3), (4, .int x4), (5, .int x5), (7, .int x7)] [] := by
    intro n
    induction n with
    | zero =>
      intro x1 x2 x3 x4 x5 x7 T hR
      exact nomatch hR
    | succ n ih =>
      intro x1 x2 x3 x4 x5 x7 T hR H locs ls w hl
      rw [fX12_feed_l62] at hR
      refine lv_iload hx hb dX12_feed_62 (lv_at hl 6 rfl) ?_
      refine lv_bipush (v := 20) hx hb dX12_feed_64 (by decide) ?_
      refine lv_icmp_ge (tgt := 115) hx hb dX12_feed_66 (by decide) (fun c1 => ?_) (fun c1 => ?_)
      · rw [if_pos c1] at hR
        refine lv_aload_n hx hb dX12_feed_115 rfl (lv_at hl 0 rfl) ?_
        refine gX12_size X w lfX12_100 dX12_feed_116 ?_
        rw [hQ]
        exact rt_i X hr hlk w hsz rfl rfl (lf2 hR).1 (lf2 hR).2 dX12_feed_119
      · rw [if_neg c1] at hR
        refine lv_iload_n hx hb dX12_feed_69 rfl (lv_at hl 1 rfl) ?_
        refine lv_iload_n hx hb dX12_feed_70 rfl (lv_at hl 2 rfl) ?_
        refine lv_iload_n hx hb dX12_feed_71 rfl (lv_at hl 3 rfl) ?_
        refine lv_iload hx hb dX12_feed_72 (lv_at hl 4 rfl) ?_
        refine lv_iload hx hb dX12_feed_74 (lv_at hl 5 rfl) ?_
        refine lv_iload hx hb dX12_feed_76 (lv_at hl 6 rfl) ?_
        obtain ⟨r3, h2, hR⟩ := bd_e hR
        refine cSi (As := [.int x1, .int x2, .int x3, .int x4, .int x5, .int x7]) (rest := []) X hl.1 w okX12_byteOf lmX12_96 (kX12_byteOf h2) ⟨Nat.le_of_ble_eq_true rfl, Nat.le_of_ble_eq_true rfl⟩ ⟨rfl, rfl⟩ ⟨Nat.zero_le _, Nat.zero_le _⟩ rfl rfl (Nat.le_of_ble_eq_true rfl) dX12_feed_78 (fun H locs zr3 w => ?_)
        refine lv_istore (lv' := [(8, .int r3), (0, .ref (ad 52)), (1, .int x1), (2, .int x2), (3, .int x3), (4, .int x4), (5, .int x5), (7, .int x7)]) hx hb dX12_feed_81 hl (by decide) rfl (fun ls hl => ?_)
        refine lv_iload hx hb dX12_feed_83 (lv_at hl 0 rfl) ?_
        refine lv_if_eq (tgt := 109) hx hb dX12_feed_85 (by decide) (fun c4 => ?_) (fun c4 => ?_)
        · rw [if_pos c4] at hR
          obtain ⟨v5, ev5, hR⟩ := lt_e hR
          refine lv_iinc (v := v5) (lv' := [(7, .int v5), (8, .int r3), (0, .ref (ad 52)), (1, .int x1), (2, .int x2), (3, .int x3), (4, .int x4), (5, .int x5)]) hx hb dX12_feed_109 hl (k := 7) rfl (by rw [ev5]; rfl) (by decide) rfl (fun ls hl => ?_)
          refine lv_goto (tgt := 62) hx hb dX12_feed_112 (by decide) ?_
          exact ih x1 x2 x3 x4 x5 v5 T hR _ _ _ w (lv_sub hl [2, 3, 4, 5, 6, 7, 0] rfl)
        · rw [if_neg c4] at hR
          refine lv_aload_n hx hb dX12_feed_88 rfl (lv_at hl 1 rfl) ?_
          refine gX12_tape X w lfX12_9 dX12_feed_89 ?_
          refine lv_aload_n hx hb dX12_feed_92 rfl (lv_at hl 1 rfl) ?_
          refine gX12_size X w lfX12_100 dX12_feed_93 ?_
          refine lv_iload hx hb dX12_feed_96 (lv_at hl 0 rfl) ?_
          obtain ⟨g6, hR⟩ := ck_e hR
          obtain ⟨T7, eT7, hR⟩ := lt_e hR
          refine iasT (n := 240) rfl (by decide) X w rfl g6 dX12_feed_98 (fun H locs w => ?_)
          rw [← eT7] at w
          refine lv_aload_n hx hb dX12_feed_99 rfl (lv_at hl 1 rfl) ?_
          refine lv_dup hx hb dX12_feed_100 rfl ?_
          refine gX12_size X w lfX12_100 dX12_feed_101 ?_
          refine lv_iconst (v := 1) hx hb dX12_feed_104 (by decide) ?_
          refine lv_iadd hx hb dX12_feed_105 ?_
          obtain ⟨T8, eT8, hR⟩ := lt_e hR
          refine pX12_size X w lfX12_100 dX12_feed_106 (fun H locs w => ?_)
          rw [← eT8] at w
          obtain ⟨v9, ev9, hR⟩ := lt_e hR
          refine lv_iinc (v := v9) (lv' := [(7, .int v9), (8, .int r3), (0, .ref (ad 52)), (1, .int x1), (2, .int x2), (3, .int x3), (4, .int x4), (5, .int x5)]) hx hb dX12_feed_109 hl (k := 7) rfl (by rw [ev9]; rfl) (by decide) rfl (fun ls hl => ?_)
          refine lv_goto (tgt := 62) hx hb dX12_feed_112 (by decide) ?_
          exact ih x1 x2 x3 x4 x5 v9 T8 hR _ _ _ w (lv_sub hl [2, 3, 4, 5, 6, 7, 0] rfl)
  have L6 : ∀ (n : Nat), ∀ (x1 : Int32) (x2 : Int32) (x3 : Int32) (x4 : Int32) (x5 : Int32) (x6 : Int32) (x7 : Int32) (T : SS), fX12_feed_l6 N n x1 x2 x3 x4 x5 x6 x7 T = some (T', r) → WAT p l ev ({ frames := 1, cells := 0, slots := 0, locals := 26 } : Room) s m args below meth c QQ 9 D dA ad t1 t2 S T o 6 [(0, .ref (ad 52)), (1, .int x1), (2, .int x2), (3, .int x3), (4, .int x4), (5, .int x5), (6, .int x6), (7, .int x7)] [] := by
    intro n
    induction n with
    | zero =>
      intro x1 x2 x3 x4 x5 x6 x7 T hR
      exact nomatch hR
    | succ n ih =>
      intro x1 x2 x3 x4 x5 x6 x7 T hR H locs ls w hl
      rw [fX12_feed_l6] at hR
      refine lv_iload hx hb dX12_feed_6 (lv_at hl 7 rfl) ?_
      refine lv_bipush (v := 20) hx hb dX12_feed_8 (by decide) ?_
      refine lv_icmp_ge (tgt := 44) hx hb dX12_feed_10 (by decide) (fun c1 => ?_) (fun c1 => ?_)
      · rw [if_pos c1] at hR
        refine lv_aload_n hx hb dX12_feed_44 rfl (lv_at hl 0 rfl) ?_
        refine gX12_size X w lfX12_100 dX12_feed_45 ?_
        refine lv_iload hx hb dX12_feed_48 (lv_at hl 6 rfl) ?_
        refine lv_iadd hx hb dX12_feed_50 ?_
        refine lv_sipush (v := 240) hx hb dX12_feed_51 (by decide) ?_
        refine lv_icmp_le (tgt := 59) hx hb dX12_feed_54 (by decide) (fun c2 => ?_) (fun c2 => ?_)
        · rw [if_pos c2] at hR
          refine lv_iconst (v := 0) hx hb dX12_feed_59 (by decide) ?_
          refine lv_istore (lv' := [(7, .int 0), (0, .ref (ad 52)), (1, .int x1), (2, .int x2), (3, .int x3), (4, .int x4), (5, .int x5), (6, .int x6)]) hx hb dX12_feed_60 hl (by decide) rfl (fun ls hl => ?_)
          exact L62 N x1 x2 x3 x4 x5 0 T hR _ _ _ w (lv_sub hl [1, 2, 3, 4, 5, 6, 0] rfl)
        · rw [if_neg c2] at hR
          refine lv_iconst (v := -1) hx hb dX12_feed_57 (by decide) ?_
          rw [hQ]
          exact rt_i X hr hlk w hsz rfl rfl (lf2 hR).1 (lf2 hR).2 dX12_feed_58
      · rw [if_neg c1] at hR
        refine lv_iload hx hb dX12_feed_13 (lv_at hl 6 rfl) ?_
        refine lv_iload_n hx hb dX12_feed_15 rfl (lv_at hl 1 rfl) ?_
        refine lv_iload_n hx hb dX12_feed_16 rfl (lv_at hl 2 rfl) ?_
        refine lv_iload_n hx hb dX12_feed_17 rfl (lv_at hl 3 rfl) ?_
        refine lv_iload hx hb dX12_feed_18 (lv_at hl 4 rfl) ?_
        refine lv_iload hx hb dX12_feed_20 (lv_at hl 5 rfl) ?_
        refine lv_iload hx hb dX12_feed_22 (lv_at hl 7 rfl) ?_
        obtain ⟨r4, h3, hR⟩ := bd_e hR
        refine cSi (As := [.int x1, .int x2, .int x3, .int x4, .int x5, .int x7]) (rest := [.int x6]) X hl.1 w okX12_byteOf lmX12_96 (kX12_byteOf h3) ⟨Nat.le_of_ble_eq_true rfl, Nat.le_of_ble_eq_true rfl⟩ ⟨rfl, rfl⟩ ⟨Nat.zero_le _, Nat.zero_le _⟩ rfl rfl (Nat.le_of_ble_eq_true rfl) dX12_feed_24 (fun H locs zr4 w => ?_)
        refine lv_if_eq (tgt := 34) hx hb dX12_feed_27 (by decide) (fun c5 => ?_) (fun c5 => ?_)
        · rw [if_pos c5] at hR
          refine lv_iconst (v := 0) hx hb dX12_feed_34 (by decide) ?_
          refine lv_iadd hx hb dX12_feed_35 ?_
          obtain ⟨v6, ev6, hR⟩ := lt_e hR
          refine nm_i ev6 ?_
          refine lv_istore (lv' := [(6, .int v6), (0, .ref (ad 52)), (1, .int x1), (2, .int x2), (3, .int x3), (4, .int x4), (5, .int x5), (7, .int x7)]) hx hb dX12_feed_36 hl (by decide) rfl (fun ls hl => ?_)
          obtain ⟨v7, ev7, hR⟩ := lt_e hR
          refine lv_iinc (v := v7) (lv' := [(7, .int v7), (6, .int v6), (0, .ref (ad 52)), (1, .int x1), (2, .int x2), (3, .int x3), (4, .int x4), (5, .int x5)]) hx hb dX12_feed_38 hl (k := 7) rfl (by rw [ev7]; rfl) (by decide) rfl (fun ls hl => ?_)
          refine lv_goto (tgt := 6) hx hb dX12_feed_41 (by decide) ?_
          exact ih x1 x2 x3 x4 x5 v6 v7 T hR _ _ _ w (lv_sub hl [2, 3, 4, 5, 6, 7, 1, 0] rfl)
        · rw [if_neg c5] at hR
          refine lv_iconst (v := 1) hx hb dX12_feed_30 (by decide) ?_
          refine lv_goto (tgt := 35) hx hb dX12_feed_31 (by decide) ?_
          refine lv_iadd hx hb dX12_feed_35 ?_
          obtain ⟨v8, ev8, hR⟩ := lt_e hR
          refine nm_i ev8 ?_
          refine lv_istore (lv' := [(6, .int v8), (0, .ref (ad 52)), (1, .int x1), (2, .int x2), (3, .int x3), (4, .int x4), (5, .int x5), (7, .int x7)]) hx hb dX12_feed_36 hl (by decide) rfl (fun ls hl => ?_)
          obtain ⟨v9, ev9, hR⟩ := lt_e hR
          refine lv_iinc (v := v9) (lv' := [(7, .int v9), (6, .int v8), (0, .ref (ad 52)), (1, .int x1), (2, .int x2), (3, .int x3), (4, .int x4), (5, .int x5)]) hx hb dX12_feed_38 hl (k := 7) rfl (by rw [ev9]; rfl) (by decide) rfl (fun ls hl => ?_)
          refine lv_goto (tgt := 6) hx hb dX12_feed_41 (by decide) ?_
          exact ih x1 x2 x3 x4 x5 v8 v9 T hR _ _ _ w (lv_sub hl [2, 3, 4, 5, 6, 7, 1, 0] rfl)
  have hl : lv_has ls 9 [(0, .ref (ad 52)), (1, .int p1), (2, .int p2), (3, .int p3), (4, .int p4), (5, .int p5)] := hl
  unfold fX12_feed at hR
  refine lv_iconst (v := 0) hx hb dX12_feed_0 (by decide) ?_
  refine lv_istore (lv' := [(6, .int 0), (0, .ref (ad 52)), (1, .int p1), (2, .int p2), (3, .int p3), (4, .int p4), (5, .int p5)]) hx hb dX12_feed_1 hl (by decide) rfl (fun ls hl => ?_)
  refine lv_iconst (v := 0) hx hb dX12_feed_3 (by decide) ?_
  refine lv_istore (lv' := [(7, .int 0), (6, .int 0), (0, .ref (ad 52)), (1, .int p1), (2, .int p2), (3, .int p3), (4, .int p4), (5, .int p5)]) hx hb dX12_feed_4 hl (by decide) rfl (fun ls hl => ?_)
  exact L6 N p1 p2 p3 p4 p5 0 0 T hR _ _ _ w (lv_sub hl [2, 3, 4, 5, 6, 7, 1, 0] rfl)
/- LooseEndsModel.end(I)Z -/
def fX12_end (N : Nat) (T : SS) (p1 : Int32) : Option (SS × Int32) := if p1 < 0 then
  (some (T, 0))
  else
  (if p1 ≤ (gi T 52 2) then
  (lt (pj T 52 2 p1) fun T3 =>
  some (T3, 1))
  else
  (some (T, 0)))
set_option maxHeartbeats 4000000 in
set_option maxRecDepth 100000 in
theorem kX12_end {l : Launch} {D : va_G} {dA : Nat → ClassId} {ad : Nat → Nat} {t1 t2 : Nat} {N : Nat} {S T : SS} {o : Nat → Int64} {p1 : Int32} {r : Int32} {T' : SS} (hR : fX12_end N T p1 = some (T', r)) : KI l D dA ad t1 t2 yX12_end cX12_end 2 .boolean { frames := 0, cells := 0, slots := 0, locals := 0 } [.ref (ad 52), .int p1] S T o r S T' := by
  intro sz
  refine en_ (plainFor_of_name (by decide)) (Nat.le_of_ble_eq_true rfl) ?_
  intro p ev s m args below meth c QQ hQ hsz X hr hlk w ls hl
  have hx := X.1
  have hb := X.2.1
  have hl : lv_has ls 2 [(0, .ref (ad 52)), (1, .int p1)] := hl
  unfold fX12_end at hR
  refine lv_iload_n hx hb dX12_end_0 rfl (lv_at hl 1 rfl) ?_
  refine lv_if_lt (tgt := 12) hx hb dX12_end_1 (by decide) (fun c1 => ?_) (fun c1 => ?_)
  · rw [if_pos c1] at hR
    refine lv_iconst (v := 0) hx hb dX12_end_12 (by decide) ?_
    rw [hQ]
    exact rt_i X hr hlk w hsz rfl rfl (lf2 hR).1 (lf2 hR).2 dX12_end_13
  · rw [if_neg c1] at hR
    refine lv_iload_n hx hb dX12_end_4 rfl (lv_at hl 1 rfl) ?_
    refine lv_aload_n hx hb dX12_end_5 rfl (lv_at hl 0 rfl) ?_
    refine gX12_size X w lfX12_100 dX12_end_6 ?_
    refine lv_icmp_le (tgt := 14) hx hb dX12_end_9 (by decide) (fun c2 => ?_) (fun c2 => ?_)
    · rw [if_pos c2] at hR
      refine lv_aload_n hx hb dX12_end_14 rfl (lv_at hl 0 rfl) ?_
      refine lv_iload_n hx hb dX12_end_15 rfl (lv_at hl 1 rfl) ?_
      obtain ⟨T3, eT3, hR⟩ := lt_e hR
      refine pX12_size X w lfX12_100 dX12_end_16 (fun H locs w => ?_)
      rw [← eT3] at w
      refine lv_iconst (v := 1) hx hb dX12_end_19 (by decide) ?_
      rw [hQ]
      exact rt_i X hr hlk w hsz rfl rfl (lf2 hR).1 (lf2 hR).2 dX12_end_20
    · rw [if_neg c2] at hR
      refine lv_iconst (v := 0) hx hb dX12_end_12 (by decide) ?_
      rw [hQ]
      exact rt_i X hr hlk w hsz rfl rfl (lf2 hR).1 (lf2 hR).2 dX12_end_13
/- LooseEndsModel.here()I -/
def fX12_here (N : Nat) (T : SS) : Option (Int32) := if (gi T 52 2) ≤ (gi T 52 3) then
  (some (-1))
  else
  (ck (inb (gi T 52 3) 240) <|
  some (ga T 53 (gi T 52 3)))
set_option maxHeartbeats 4000000 in
set_option maxRecDepth 100000 in
theorem kX12_here {l : Launch} {D : va_G} {dA : Nat → ClassId} {ad : Nat → Nat} {t1 t2 : Nat} {N : Nat} {S T : SS} {o : Nat → Int64} {r : Int32} (hR : fX12_here N T = some r) : KI l D dA ad t1 t2 yX12_here cX12_here 1 .int { frames := 0, cells := 0, slots := 0, locals := 0 } [.ref (ad 52)] S T o r S T := by
  intro sz
  refine en_ (plainFor_of_name (by decide)) (Nat.le_of_ble_eq_true rfl) ?_
  intro p ev s m args below meth c QQ hQ hsz X hr hlk w ls hl
  have hx := X.1
  have hb := X.2.1
  have hl : lv_has ls 1 [(0, .ref (ad 52))] := hl
  unfold fX12_here at hR
  refine lv_aload_n hx hb dX12_here_0 rfl (lv_at hl 0 rfl) ?_
  refine gX12_at X w lfX12_103 dX12_here_1 ?_
  refine lv_aload_n hx hb dX12_here_4 rfl (lv_at hl 0 rfl) ?_
  refine gX12_size X w lfX12_100 dX12_here_5 ?_
  refine lv_icmp_ge (tgt := 23) hx hb dX12_here_8 (by decide) (fun c1 => ?_) (fun c1 => ?_)
  · rw [if_pos c1] at hR
    refine lv_iconst (v := -1) hx hb dX12_here_23 (by decide) ?_
    rw [hQ]
    exact rt_i X hr hlk w hsz rfl rfl rfl (lf1 hR) dX12_here_24
  · rw [if_neg c1] at hR
    refine lv_aload_n hx hb dX12_here_11 rfl (lv_at hl 0 rfl) ?_
    refine gX12_tape X w lfX12_9 dX12_here_12 ?_
    refine lv_aload_n hx hb dX12_here_15 rfl (lv_at hl 0 rfl) ?_
    refine gX12_at X w lfX12_103 dX12_here_16 ?_
    obtain ⟨g2, hR⟩ := ck_e hR
    refine ialT (n := 240) rfl (by decide) X w rfl g2 dX12_here_19 ?_
    refine lv_goto (tgt := 24) hx hb dX12_here_20 (by decide) ?_
    rw [hQ]
    exact rt_i X hr hlk w hsz rfl rfl rfl (lf1 hR) dX12_here_24
/- LooseEndsModel.look()I -/
def fX12_look_l0 (N : Nat) : Nat → SS → Option (SS × Int32)
  | 0, _ => none
  | n + 1, T => bd (fX12_here N T) fun r2 =>
  if r2 = 32 then
  (lt (pj T 52 3 ((gi T 52 3) + 1)) fun T6 =>
  fX12_look_l0 N n T6)
  else
  (bd (fX12_here N T) fun r5 =>
  some (T, r5))
def fX12_look (N : Nat) (T : SS) : Option (SS × Int32) := fX12_look_l0 N N T
set_option maxHeartbeats 4000000 in
set_option maxRecDepth 100000 in
theorem kX12_look {l : Launch} {D : va_G} {dA : Nat → ClassId} {ad : Nat → Nat} {t1 t2 : Nat} {N : Nat} {S T : SS} {o : Nat → Int64} {r : Int32} {T' : SS} (hR : fX12_look N T = some (T', r)) : KI l D dA ad t1 t2 yX12_look cX12_look 1 .int { frames := 1, cells := 0, slots := 0, locals := 20 } [.ref (ad 52)] S T o r S T' := by
  intro sz
  refine en_ (plainFor_of_name (by decide)) (Nat.le_of_ble_eq_true rfl) ?_
  intro p ev s m args below meth c QQ hQ hsz X hr hlk w ls hl
  have hx := X.1
  have hb := X.2.1
  have L0 : ∀ (n : Nat), ∀ (T : SS), fX12_look_l0 N n T = some (T', r) → WAT p l ev ({ frames := 1, cells := 0, slots := 0, locals := 20 } : Room) s m args below meth c QQ 1 D dA ad t1 t2 S T o 0 [(0, .ref (ad 52))] [] := by
    intro n
    induction n with
    | zero =>
      intro T hR
      exact nomatch hR
    | succ n ih =>
      intro T hR H locs ls w hl
      rw [fX12_look_l0] at hR
      refine lv_aload_n hx hb dX12_look_0 rfl (lv_at hl 0 rfl) ?_
      obtain ⟨r2, h1, hR⟩ := bd_e hR
      refine cVi (k := 52) (As := []) (rest := []) X hl.1 w okX12_here obX12 rfl lmX12_106 (kX12_here h1) ⟨Nat.le_of_ble_eq_true rfl, Nat.le_of_ble_eq_true rfl⟩ ⟨rfl, rfl⟩ ⟨Nat.zero_le _, Nat.zero_le _⟩ rfl rfl (Nat.le_of_ble_eq_true rfl) dX12_look_1 (fun H locs zr2 w => ?_)
      refine lv_bipush (v := 32) hx hb dX12_look_4 (by decide) ?_
      refine lv_icmp_ne (tgt := 22) hx hb dX12_look_6 (by decide) (fun c3 => ?_) (fun c3 => ?_)
      · rw [if_neg c3] at hR
        refine lv_aload_n hx hb dX12_look_22 rfl (lv_at hl 0 rfl) ?_
        obtain ⟨r5, h4, hR⟩ := bd_e hR
        refine cVi (k := 52) (As := []) (rest := []) X hl.1 w okX12_here obX12 rfl lmX12_106 (kX12_here h4) ⟨Nat.le_of_ble_eq_true rfl, Nat.le_of_ble_eq_true rfl⟩ ⟨rfl, rfl⟩ ⟨Nat.zero_le _, Nat.zero_le _⟩ rfl rfl (Nat.le_of_ble_eq_true rfl) dX12_look_23 (fun H locs zr5 w => ?_)
        rw [hQ]
        exact rt_i X hr hlk w hsz rfl rfl (lf2 hR).1 (lf2 hR).2 dX12_look_26
      · rw [if_pos c3] at hR
        refine lv_aload_n hx hb dX12_look_9 rfl (lv_at hl 0 rfl) ?_
        refine lv_dup hx hb dX12_look_10 rfl ?_
        refine gX12_at X w lfX12_103 dX12_look_11 ?_
        refine lv_iconst (v := 1) hx hb dX12_look_14 (by decide) ?_
        refine lv_iadd hx hb dX12_look_15 ?_
        obtain ⟨T6, eT6, hR⟩ := lt_e hR
        refine pX12_at X w lfX12_103 dX12_look_16 (fun H locs w => ?_)
        rw [← eT6] at w
        refine lv_goto (tgt := 0) hx hb dX12_look_19 (by decide) ?_
        exact ih T6 hR _ _ _ w (lv_sub hl [0] rfl)
  have hl : lv_has ls 1 [(0, .ref (ad 52))] := hl
  unfold fX12_look at hR
  exact L0 N T hR _ _ _ w (lv_sub hl [0] rfl)
/- LooseEndsModel.bad()V -/
def fX12_bad (N : Nat) (T : SS) : Option (SS) := if (gi T 52 4) = (-1) then
  (lt (pj T 52 4 (gi T 52 3)) fun T3 =>
  some T3)
  else
  (lt (pj T 52 4 (gi T 52 4)) fun T2 =>
  some T2)
set_option maxHeartbeats 4000000 in
set_option maxRecDepth 100000 in
theorem kX12_bad {l : Launch} {D : va_G} {dA : Nat → ClassId} {ad : Nat → Nat} {t1 t2 : Nat} {N : Nat} {S T : SS} {o : Nat → Int64} {T' : SS} (hR : fX12_bad N T = some T') : KV l D dA ad t1 t2 yX12_bad cX12_bad 1 { frames := 0, cells := 0, slots := 0, locals := 0 } [.ref (ad 52)] S T o S T' := by
  intro sz
  refine en_ (plainFor_of_name (by decide)) (Nat.le_of_ble_eq_true rfl) ?_
  intro p ev s m args below meth c QQ hQ hsz X hr hlk w ls hl
  have hx := X.1
  have hb := X.2.1
  have hl : lv_has ls 1 [(0, .ref (ad 52))] := hl
  unfold fX12_bad at hR
  refine lv_aload_n hx hb dX12_bad_0 rfl (lv_at hl 0 rfl) ?_
  refine lv_aload_n hx hb dX12_bad_1 rfl (lv_at hl 0 rfl) ?_
  refine gX12_wrong X w lfX12_110 dX12_bad_2 ?_
  refine lv_iconst (v := -1) hx hb dX12_bad_5 (by decide) ?_
  refine lv_icmp_ne (tgt := 16) hx hb dX12_bad_6 (by decide) (fun c1 => ?_) (fun c1 => ?_)
  · rw [if_neg c1] at hR
    refine lv_aload_n hx hb dX12_bad_16 rfl (lv_at hl 0 rfl) ?_
    refine gX12_wrong X w lfX12_110 dX12_bad_17 ?_
    obtain ⟨T2, eT2, hR⟩ := lt_e hR
    refine pX12_wrong X w lfX12_110 dX12_bad_20 (fun H locs w => ?_)
    rw [← eT2] at w
    rw [hQ]
    exact rt_v X hr hlk w hsz rfl (lf1 hR) dX12_bad_23
  · rw [if_pos c1] at hR
    refine lv_aload_n hx hb dX12_bad_9 rfl (lv_at hl 0 rfl) ?_
    refine gX12_at X w lfX12_103 dX12_bad_10 ?_
    refine lv_goto (tgt := 20) hx hb dX12_bad_13 (by decide) ?_
    obtain ⟨T3, eT3, hR⟩ := lt_e hR
    refine pX12_wrong X w lfX12_110 dX12_bad_20 (fun H locs w => ?_)
    rw [← eT3] at w
    rw [hQ]
    exact rt_v X hr hlk w hsz rfl (lf1 hR) dX12_bad_23
/- LooseEndsModel.isDigit(I)Z -/
def fX12_isDigit (N : Nat) (p0 : Int32) : Option (Int32) := if p0 < 48 then
  (some 0)
  else
  (if 57 < p0 then
  (some 0)
  else
  (some 1))
set_option maxHeartbeats 4000000 in
set_option maxRecDepth 100000 in
theorem kX12_isDigit {l : Launch} {D : va_G} {dA : Nat → ClassId} {ad : Nat → Nat} {t1 t2 : Nat} {N : Nat} {S T : SS} {o : Nat → Int64} {p0 : Int32} {r : Int32} (hR : fX12_isDigit N p0 = some r) : KI l D dA ad t1 t2 yX12_isDigit cX12_isDigit 1 .boolean { frames := 0, cells := 0, slots := 0, locals := 0 } [.int p0] S T o r S T := by
  intro sz
  refine en_ (plainFor_of_name (by decide)) (Nat.le_of_ble_eq_true rfl) ?_
  intro p ev s m args below meth c QQ hQ hsz X hr hlk w ls hl
  have hx := X.1
  have hb := X.2.1
  have hl : lv_has ls 1 [(0, .int p0)] := hl
  unfold fX12_isDigit at hR
  refine lv_iload_n hx hb dX12_isDigit_0 rfl (lv_at hl 0 rfl) ?_
  refine lv_bipush (v := 48) hx hb dX12_isDigit_1 (by decide) ?_
  refine lv_icmp_lt (tgt := 16) hx hb dX12_isDigit_3 (by decide) (fun c1 => ?_) (fun c1 => ?_)
  · rw [if_pos c1] at hR
    refine lv_iconst (v := 0) hx hb dX12_isDigit_16 (by decide) ?_
    rw [hQ]
    exact rt_i X hr hlk w hsz rfl rfl rfl (lf1 hR) dX12_isDigit_17
  · rw [if_neg c1] at hR
    refine lv_iload_n hx hb dX12_isDigit_6 rfl (lv_at hl 0 rfl) ?_
    refine lv_bipush (v := 57) hx hb dX12_isDigit_7 (by decide) ?_
    refine lv_icmp_gt (tgt := 16) hx hb dX12_isDigit_9 (by decide) (fun c2 => ?_) (fun c2 => ?_)
    · rw [if_pos c2] at hR
      refine lv_iconst (v := 0) hx hb dX12_isDigit_16 (by decide) ?_
      rw [hQ]
      exact rt_i X hr hlk w hsz rfl rfl rfl (lf1 hR) dX12_isDigit_17
    · rw [if_neg c2] at hR
      refine lv_iconst (v := 1) hx hb dX12_isDigit_12 (by decide) ?_
      refine lv_goto (tgt := 17) hx hb dX12_isDigit_13 (by decide) ?_
      rw [hQ]
      exact rt_i X hr hlk w hsz rfl rfl rfl (lf1 hR) dX12_isDigit_17
/- LooseEndsModel.put(II)V -/
def fX12_put (N : Nat) (T : SS) (p1 : Int32) (p2 : Int32) : Option (SS) := ck (inb (gi T 52 14) 5) <|
  ck (inb ((520 * (gi T 52 14)) + (ga T 56 (gi T 52 14))) 2600) <|
  lt (pa T 54 ((520 * (gi T 52 14)) + (ga T 56 (gi T 52 14))) p1) fun T3 =>
  ck (inb (gi T3 52 14) 5) <|
  ck (inb ((520 * (gi T3 52 14)) + (ga T3 56 (gi T3 52 14))) 2600) <|
  lt (pa T3 55 ((520 * (gi T3 52 14)) + (ga T3 56 (gi T3 52 14))) p2) fun T6 =>
  ck (inb (gi T6 52 14) 5) <|
  ck (inb (gi T6 52 14) 5) <|
  lt (pa T6 56 (gi T6 52 14) ((ga T6 56 (gi T6 52 14)) + 1)) fun T9 =>
  some T9
set_option maxHeartbeats 4000000 in
set_option maxRecDepth 100000 in
theorem kX12_put {l : Launch} {D : va_G} {dA : Nat → ClassId} {ad : Nat → Nat} {t1 t2 : Nat} {N : Nat} {S T : SS} {o : Nat → Int64} {p1 : Int32} {p2 : Int32} {T' : SS} (hR : fX12_put N T p1 p2 = some T') : KV l D dA ad t1 t2 yX12_put cX12_put 3 { frames := 0, cells := 0, slots := 0, locals := 0 } [.ref (ad 52), .int p1, .int p2] S T o S T' := by
  intro sz
  refine en_ (plainFor_of_name (by decide)) (Nat.le_of_ble_eq_true rfl) ?_
  intro p ev s m args below meth c QQ hQ hsz X hr hlk w ls hl
  have hx := X.1
  have hb := X.2.1
  have hl : lv_has ls 3 [(0, .ref (ad 52)), (1, .int p1), (2, .int p2)] := hl
  unfold fX12_put at hR
  refine lv_aload_n hx hb dX12_put_0 rfl (lv_at hl 0 rfl) ?_
  refine gX12_code X w lfX12_13 dX12_put_1 ?_
  refine lv_sipush (v := 520) hx hb dX12_put_4 (by decide) ?_
  refine lv_aload_n hx hb dX12_put_7 rfl (lv_at hl 0 rfl) ?_
  refine gX12_text X w lfX12_113 dX12_put_8 ?_
  refine lv_imul hx hb dX12_put_11 ?_
  refine lv_aload_n hx hb dX12_put_12 rfl (lv_at hl 0 rfl) ?_
  refine gX12_codes X w lfX12_19 dX12_put_13 ?_
  refine lv_aload_n hx hb dX12_put_16 rfl (lv_at hl 0 rfl) ?_
  refine gX12_text X w lfX12_113 dX12_put_17 ?_
  obtain ⟨g1, hR⟩ := ck_e hR
  refine ialT (n := 5) rfl (by decide) X w rfl g1 dX12_put_20 ?_
  refine lv_iadd hx hb dX12_put_21 ?_
  refine lv_iload_n hx hb dX12_put_22 rfl (lv_at hl 1 rfl) ?_
  obtain ⟨g2, hR⟩ := ck_e hR
  obtain ⟨T3, eT3, hR⟩ := lt_e hR
  refine iasT (n := 2600) rfl (by decide) X w rfl g2 dX12_put_23 (fun H locs w => ?_)
  rw [← eT3] at w
  refine lv_aload_n hx hb dX12_put_24 rfl (lv_at hl 0 rfl) ?_
  refine gX12_value X w lfX12_16 dX12_put_25 ?_
  refine lv_sipush (v := 520) hx hb dX12_put_28 (by decide) ?_
  refine lv_aload_n hx hb dX12_put_31 rfl (lv_at hl 0 rfl) ?_
  refine gX12_text X w lfX12_113 dX12_put_32 ?_
  refine lv_imul hx hb dX12_put_35 ?_
  refine lv_aload_n hx hb dX12_put_36 rfl (lv_at hl 0 rfl) ?_
  refine gX12_codes X w lfX12_19 dX12_put_37 ?_
  refine lv_aload_n hx hb dX12_put_40 rfl (lv_at hl 0 rfl) ?_
  refine gX12_text X w lfX12_113 dX12_put_41 ?_
  obtain ⟨g4, hR⟩ := ck_e hR
  refine ialT (n := 5) rfl (by decide) X w rfl g4 dX12_put_44 ?_
  refine lv_iadd hx hb dX12_put_45 ?_
  refine lv_iload_n hx hb dX12_put_46 rfl (lv_at hl 2 rfl) ?_
  obtain ⟨g5, hR⟩ := ck_e hR
  obtain ⟨T6, eT6, hR⟩ := lt_e hR
  refine iasT (n := 2600) rfl (by decide) X w rfl g5 dX12_put_47 (fun H locs w => ?_)
  rw [← eT6] at w
  refine lv_aload_n hx hb dX12_put_48 rfl (lv_at hl 0 rfl) ?_
  refine gX12_codes X w lfX12_19 dX12_put_49 ?_
  refine lv_aload_n hx hb dX12_put_52 rfl (lv_at hl 0 rfl) ?_
  refine gX12_text X w lfX12_113 dX12_put_53 ?_
  refine lv_dup2_11 hx hb dX12_put_56 rfl rfl ?_
  obtain ⟨g7, hR⟩ := ck_e hR
  refine ialT (n := 5) rfl (by decide) X w rfl g7 dX12_put_57 ?_
  refine lv_iconst (v := 1) hx hb dX12_put_58 (by decide) ?_
  refine lv_iadd hx hb dX12_put_59 ?_
  obtain ⟨g8, hR⟩ := ck_e hR
  obtain ⟨T9, eT9, hR⟩ := lt_e hR
  refine iasT (n := 5) rfl (by decide) X w rfl g8 dX12_put_60 (fun H locs w => ?_)
  rw [← eT9] at w
  rw [hQ]
  exact rt_v X hr hlk w hsz rfl (lf1 hR) dX12_put_61
/- LooseEndsModel.letterOf(I)I -/
def fX12_letterOf (N : Nat) (p0 : Int32) : Option (Int32) := if p0 = 99 then
  (some 0)
  else
  (if p0 = 112 then
  (some 1)
  else
  (if p0 = 108 then
  (some 2)
  else
  (if p0 = 101 then
  (some 3)
  else
  (if p0 = 110 then
  (some 4)
  else
  (if p0 = 116 then
  (some 5)
  else
  (some (-1)))))))
set_option maxHeartbeats 4000000 in
set_option maxRecDepth 100000 in
theorem kX12_letterOf {l : Launch} {D : va_G} {dA : Nat → ClassId} {ad : Nat → Nat} {t1 t2 : Nat} {N : Nat} {S T : SS} {o : Nat → Int64} {p0 : Int32} {r : Int32} (hR : fX12_letterOf N p0 = some r) : KI l D dA ad t1 t2 yX12_letterOf cX12_letterOf 1 .int { frames := 0, cells := 0, slots := 0, locals := 0 } [.int p0] S T o r S T := by
  intro sz
  refine en_ (plainFor_of_name (by decide)) (Nat.le_of_ble_eq_true rfl) ?_
  intro p ev s m args below meth c QQ hQ hsz X hr hlk w ls hl
  have hx := X.1
  have hb := X.2.1
  have hl : lv_has ls 1 [(0, .int p0)] := hl
  unfold fX12_letterOf at hR
  refine lv_iload_n hx hb dX12_letterOf_0 rfl (lv_at hl 0 rfl) ?_
  refine lv_bipush (v := 99) hx hb dX12_letterOf_1 (by decide) ?_
  refine lv_icmp_ne (tgt := 10) hx hb dX12_letterOf_3 (by decide) (fun c1 => ?_) (fun c1 => ?_)
  · rw [if_neg c1] at hR
    refine lv_iload_n hx hb dX12_letterOf_10 rfl (lv_at hl 0 rfl) ?_
    refine lv_bipush (v := 112) hx hb dX12_letterOf_11 (by decide) ?_
    refine lv_icmp_ne (tgt := 20) hx hb dX12_letterOf_13 (by decide) (fun c2 => ?_) (fun c2 => ?_)
    · rw [if_neg c2] at hR
      refine lv_iload_n hx hb dX12_letterOf_20 rfl (lv_at hl 0 rfl) ?_
      refine lv_bipush (v := 108) hx hb dX12_letterOf_21 (by decide) ?_
      refine lv_icmp_ne (tgt := 30) hx hb dX12_letterOf_23 (by decide) (fun c3 => ?_) (fun c3 => ?_)
      · rw [if_neg c3] at hR
        refine lv_iload_n hx hb dX12_letterOf_30 rfl (lv_at hl 0 rfl) ?_
        refine lv_bipush (v := 101) hx hb dX12_letterOf_31 (by decide) ?_
        refine lv_icmp_ne (tgt := 40) hx hb dX12_letterOf_33 (by decide) (fun c4 => ?_) (fun c4 => ?_)
        · rw [if_neg c4] at hR
          refine lv_iload_n hx hb dX12_letterOf_40 rfl (lv_at hl 0 rfl) ?_
          refine lv_bipush (v := 110) hx hb dX12_letterOf_41 (by decide) ?_
          refine lv_icmp_ne (tgt := 50) hx hb dX12_letterOf_43 (by decide) (fun c5 => ?_) (fun c5 => ?_)
          · rw [if_neg c5] at hR
            refine lv_iload_n hx hb dX12_letterOf_50 rfl (lv_at hl 0 rfl) ?_
            refine lv_bipush (v := 116) hx hb dX12_letterOf_51 (by decide) ?_
            refine lv_icmp_ne (tgt := 60) hx hb dX12_letterOf_53 (by decide) (fun c6 => ?_) (fun c6 => ?_)
            · rw [if_neg c6] at hR
              refine lv_iconst (v := -1) hx hb dX12_letterOf_60 (by decide) ?_
              rw [hQ]
              exact rt_i X hr hlk w hsz rfl rfl rfl (lf1 hR) dX12_letterOf_61
            · rw [if_pos c6] at hR
              refine lv_iconst (v := 5) hx hb dX12_letterOf_56 (by decide) ?_
              refine lv_goto (tgt := 61) hx hb dX12_letterOf_57 (by decide) ?_
              rw [hQ]
              exact rt_i X hr hlk w hsz rfl rfl rfl (lf1 hR) dX12_letterOf_61
          · rw [if_pos c5] at hR
            refine lv_iconst (v := 4) hx hb dX12_letterOf_46 (by decide) ?_
            refine lv_goto (tgt := 61) hx hb dX12_letterOf_47 (by decide) ?_
            rw [hQ]
            exact rt_i X hr hlk w hsz rfl rfl rfl (lf1 hR) dX12_letterOf_61
        · rw [if_pos c4] at hR
          refine lv_iconst (v := 3) hx hb dX12_letterOf_36 (by decide) ?_
          refine lv_goto (tgt := 61) hx hb dX12_letterOf_37 (by decide) ?_
          rw [hQ]
          exact rt_i X hr hlk w hsz rfl rfl rfl (lf1 hR) dX12_letterOf_61
      · rw [if_pos c3] at hR
        refine lv_iconst (v := 2) hx hb dX12_letterOf_26 (by decide) ?_
        refine lv_goto (tgt := 61) hx hb dX12_letterOf_27 (by decide) ?_
        rw [hQ]
        exact rt_i X hr hlk w hsz rfl rfl rfl (lf1 hR) dX12_letterOf_61
    · rw [if_pos c2] at hR
      refine lv_iconst (v := 1) hx hb dX12_letterOf_16 (by decide) ?_
      refine lv_goto (tgt := 61) hx hb dX12_letterOf_17 (by decide) ?_
      rw [hQ]
      exact rt_i X hr hlk w hsz rfl rfl rfl (lf1 hR) dX12_letterOf_61
  · rw [if_pos c1] at hR
    refine lv_iconst (v := 0) hx hb dX12_letterOf_6 (by decide) ?_
    refine lv_goto (tgt := 61) hx hb dX12_letterOf_7 (by decide) ?_
    rw [hQ]
    exact rt_i X hr hlk w hsz rfl rfl rfl (lf1 hR) dX12_letterOf_61
/- LooseEndsModel.opens()V -/
def fX12_opens_j13 (N : Nat) (T : SS) : Option (SS) := lt (pj T 52 5 ((gi T 52 5) + 1)) fun T1 =>
  lt (pj T1 52 3 ((gi T1 52 3) + 1)) fun T2 =>
  some T2
def fX12_opens (N : Nat) (T : SS) : Option (SS) := if (gi T 52 5) = 6 then
  (bd (fX12_bad N T) fun T3 =>
  fX12_opens_j13 N T3)
  else
  (fX12_opens_j13 N T)
set_option maxHeartbeats 4000000 in
set_option maxRecDepth 100000 in
theorem kX12_opens {l : Launch} {D : va_G} {dA : Nat → ClassId} {ad : Nat → Nat} {t1 t2 : Nat} {N : Nat} {S T : SS} {o : Nat → Int64} {T' : SS} (hR : fX12_opens N T = some T') : KV l D dA ad t1 t2 yX12_opens cX12_opens 1 { frames := 1, cells := 0, slots := 0, locals := 20 } [.ref (ad 52)] S T o S T' := by
  intro sz
  refine en_ (plainFor_of_name (by decide)) (Nat.le_of_ble_eq_true rfl) ?_
  intro p ev s m args below meth c QQ hQ hsz X hr hlk w ls hl
  have hx := X.1
  have hb := X.2.1
  have J13 : ∀ (T : SS), fX12_opens_j13 N T = some T' → WAT p l ev ({ frames := 1, cells := 0, slots := 0, locals := 20 } : Room) s m args below meth c QQ 1 D dA ad t1 t2 S T o 13 [(0, .ref (ad 52))] [] := by
    intro T hR H locs ls w hl
    unfold fX12_opens_j13 at hR
    refine lv_aload_n hx hb dX12_opens_13 rfl (lv_at hl 0 rfl) ?_
    refine lv_dup hx hb dX12_opens_14 rfl ?_
    refine gX12_deep X w lfX12_116 dX12_opens_15 ?_
    refine lv_iconst (v := 1) hx hb dX12_opens_18 (by decide) ?_
    refine lv_iadd hx hb dX12_opens_19 ?_
    obtain ⟨T1, eT1, hR⟩ := lt_e hR
    refine pX12_deep X w lfX12_116 dX12_opens_20 (fun H locs w => ?_)
    rw [← eT1] at w
    refine lv_aload_n hx hb dX12_opens_23 rfl (lv_at hl 0 rfl) ?_
    refine lv_dup hx hb dX12_opens_24 rfl ?_
    refine gX12_at X w lfX12_103 dX12_opens_25 ?_
    refine lv_iconst (v := 1) hx hb dX12_opens_28 (by decide) ?_
    refine lv_iadd hx hb dX12_opens_29 ?_
    obtain ⟨T2, eT2, hR⟩ := lt_e hR
    refine pX12_at X w lfX12_103 dX12_opens_30 (fun H locs w => ?_)
    rw [← eT2] at w
    rw [hQ]
    exact rt_v X hr hlk w hsz rfl (lf1 hR) dX12_opens_33
  have hl : lv_has ls 1 [(0, .ref (ad 52))] := hl
  unfold fX12_opens at hR
  refine lv_aload_n hx hb dX12_opens_0 rfl (lv_at hl 0 rfl) ?_
  refine gX12_deep X w lfX12_116 dX12_opens_1 ?_
  refine lv_bipush (v := 6) hx hb dX12_opens_4 (by decide) ?_
  refine lv_icmp_ne (tgt := 13) hx hb dX12_opens_6 (by decide) (fun c1 => ?_) (fun c1 => ?_)
  · rw [if_neg c1] at hR
    exact J13 T hR _ _ _ w (lv_sub hl [0] rfl)
  · rw [if_pos c1] at hR
    refine lv_aload_n hx hb dX12_opens_9 rfl (lv_at hl 0 rfl) ?_
    obtain ⟨T3, h2, hR⟩ := bd_e hR
    refine cVv (k := 52) (As := []) (rest := []) X hl.1 w okX12_bad obX12 rfl lmX12_119 (kX12_bad h2) ⟨Nat.le_of_ble_eq_true rfl, Nat.le_of_ble_eq_true rfl⟩ ⟨rfl, rfl⟩ ⟨Nat.zero_le _, Nat.zero_le _⟩ rfl rfl (Nat.le_of_ble_eq_true rfl) dX12_opens_10 (fun H locs w => ?_)
    exact J13 T3 hR _ _ _ w (lv_sub hl [0] rfl)
/- LooseEndsModel.closes(I)V -/
def fX12_closes_j20 (N : Nat) (T : SS) : Option (SS) := lt (pj T 52 3 ((gi T 52 3) + 1)) fun T1 =>
  lt (pj T1 52 5 ((gi T1 52 5) - 1)) fun T2 =>
  some T2
def fX12_closes (N : Nat) (T : SS) (p1 : Int32) : Option (SS) := if (gi T 52 4) = (-1) then
  (b2 (fX12_look N T) fun T4 r3 =>
  if r3 = p1 then
  (fX12_closes_j20 N T4)
  else
  (bd (fX12_bad N T4) fun T7 =>
  fX12_closes_j20 N T7))
  else
  (fX12_closes_j20 N T)
set_option maxHeartbeats 4000000 in
set_option maxRecDepth 100000 in
theorem kX12_closes {l : Launch} {D : va_G} {dA : Nat → ClassId} {ad : Nat → Nat} {t1 t2 : Nat} {N : Nat} {S T : SS} {o : Nat → Int64} {p1 : Int32} {T' : SS} (hR : fX12_closes N T p1 = some T') : KV l D dA ad t1 t2 yX12_closes cX12_closes 2 { frames := 2, cells := 0, slots := 0, locals := 40 } [.ref (ad 52), .int p1] S T o S T' := by
  intro sz
  refine en_ (plainFor_of_name (by decide)) (Nat.le_of_ble_eq_true rfl) ?_
  intro p ev s m args below meth c QQ hQ hsz X hr hlk w ls hl
  have hx := X.1
  have hb := X.2.1
  have J20 : ∀ (T : SS), fX12_closes_j20 N T = some T' → WAT p l ev ({ frames := 2, cells := 0, slots := 0, locals := 40 } : Room) s m args below meth c QQ 2 D dA ad t1 t2 S T o 20 [(0, .ref (ad 52))] [] := by
    intro T hR H locs ls w hl
    unfold fX12_closes_j20 at hR
    refine lv_aload_n hx hb dX12_closes_20 rfl (lv_at hl 0 rfl) ?_
    refine lv_dup hx hb dX12_closes_21 rfl ?_
    refine gX12_at X w lfX12_103 dX12_closes_22 ?_
    refine lv_iconst (v := 1) hx hb dX12_closes_25 (by decide) ?_
    refine lv_iadd hx hb dX12_closes_26 ?_
    obtain ⟨T1, eT1, hR⟩ := lt_e hR
    refine pX12_at X w lfX12_103 dX12_closes_27 (fun H locs w => ?_)
    rw [← eT1] at w
    refine lv_aload_n hx hb dX12_closes_30 rfl (lv_at hl 0 rfl) ?_
    refine lv_dup hx hb dX12_closes_31 rfl ?_
    refine gX12_deep X w lfX12_116 dX12_closes_32 ?_
    refine lv_iconst (v := 1) hx hb dX12_closes_35 (by decide) ?_
    refine lv_isub hx hb dX12_closes_36 ?_
    obtain ⟨T2, eT2, hR⟩ := lt_e hR
    refine pX12_deep X w lfX12_116 dX12_closes_37 (fun H locs w => ?_)
    rw [← eT2] at w
    rw [hQ]
    exact rt_v X hr hlk w hsz rfl (lf1 hR) dX12_closes_40
  have hl : lv_has ls 2 [(0, .ref (ad 52)), (1, .int p1)] := hl
  unfold fX12_closes at hR
  refine lv_aload_n hx hb dX12_closes_0 rfl (lv_at hl 0 rfl) ?_
  refine gX12_wrong X w lfX12_110 dX12_closes_1 ?_
  refine lv_iconst (v := -1) hx hb dX12_closes_4 (by decide) ?_
  refine lv_icmp_ne (tgt := 20) hx hb dX12_closes_5 (by decide) (fun c1 => ?_) (fun c1 => ?_)
  · rw [if_neg c1] at hR
    exact J20 T hR _ _ _ w (lv_sub hl [0] rfl)
  · rw [if_pos c1] at hR
    refine lv_aload_n hx hb dX12_closes_8 rfl (lv_at hl 0 rfl) ?_
    obtain ⟨T4, r3, h2, hR⟩ := b2_e hR
    refine cVi (k := 52) (As := []) (rest := []) X hl.1 w okX12_look obX12 rfl lmX12_122 (kX12_look h2) ⟨Nat.le_of_ble_eq_true rfl, Nat.le_of_ble_eq_true rfl⟩ ⟨rfl, rfl⟩ ⟨Nat.zero_le _, Nat.zero_le _⟩ rfl rfl (Nat.le_of_ble_eq_true rfl) dX12_closes_9 (fun H locs zr3 w => ?_)
    refine lv_iload_n hx hb dX12_closes_12 rfl (lv_at hl 1 rfl) ?_
    refine lv_icmp_eq (tgt := 20) hx hb dX12_closes_13 (by decide) (fun c5 => ?_) (fun c5 => ?_)
    · rw [if_pos c5] at hR
      exact J20 T4 hR _ _ _ w (lv_sub hl [0] rfl)
    · rw [if_neg c5] at hR
      refine lv_aload_n hx hb dX12_closes_16 rfl (lv_at hl 0 rfl) ?_
      obtain ⟨T7, h6, hR⟩ := bd_e hR
      refine cVv (k := 52) (As := []) (rest := []) X hl.1 w okX12_bad obX12 rfl lmX12_119 (kX12_bad h6) ⟨Nat.le_of_ble_eq_true rfl, Nat.le_of_ble_eq_true rfl⟩ ⟨rfl, rfl⟩ ⟨Nat.zero_le _, Nat.zero_le _⟩ rfl rfl (Nat.le_of_ble_eq_true rfl) dX12_closes_17 (fun H locs w => ?_)
      exact J20 T7 hR _ _ _ w (lv_sub hl [0] rfl)
/- LooseEndsModel.plainNumber()I -/
def fX12_plainNumber_j48 (N : Nat) (x1 : Int32) (T : SS) : Option (SS × Int32) := bd (fX12_here N T) fun r2 =>
  bd (fX12_isDigit N r2) fun r4 =>
  if r4 = 0 then
  (some (T, x1))
  else
  (bd (fX12_bad N T) fun T7 =>
  some (T7, x1))
def fX12_plainNumber_l4 (N : Nat) : Nat → Int32 → Int32 → SS → Option (SS × Int32)
  | 0, _, _, _ => none
  | n + 1, x1, x2, T => if 4 ≤ x2 then
  (fX12_plainNumber_j48 N x1 T)
  else
  (bd (fX12_here N T) fun r3 =>
  bd (fX12_isDigit N r3) fun r5 =>
  if r5 = 0 then
  (fX12_plainNumber_j48 N x1 T)
  else
  (bd (fX12_here N T) fun r8 =>
  lt (((10 * x1) + r8) - 48) fun v9 =>
  lt (pj T 52 3 ((gi T 52 3) + 1)) fun T10 =>
  lt (x2 + 1) fun v11 =>
  fX12_plainNumber_l4 N n v9 v11 T10))
def fX12_plainNumber (N : Nat) (T : SS) : Option (SS × Int32) := fX12_plainNumber_l4 N N 0 0 T
set_option maxHeartbeats 4000000 in
set_option maxRecDepth 100000 in
theorem kX12_plainNumber {l : Launch} {D : va_G} {dA : Nat → ClassId} {ad : Nat → Nat} {t1 t2 : Nat} {N : Nat} {S T : SS} {o : Nat → Int64} {r : Int32} {T' : SS} (hR : fX12_plainNumber N T = some (T', r)) : KI l D dA ad t1 t2 yX12_plainNumber cX12_plainNumber 3 .int { frames := 1, cells := 0, slots := 0, locals := 20 } [.ref (ad 52)] S T o r S T' := by
  intro sz
  refine en_ (plainFor_of_name (by decide)) (Nat.le_of_ble_eq_true rfl) ?_
  intro p ev s m args below meth c QQ hQ hsz X hr hlk w ls hl
  have hx := X.1
  have hb := X.2.1
  have J48 : ∀ (x1 : Int32) (T : SS), fX12_plainNumber_j48 N x1 T = some (T', r) → WAT p l ev ({ frames := 1, cells := 0, slots := 0, locals := 20 } : Room) s m args below meth c QQ 3 D dA ad t1 t2 S T o 48 [(0, .ref (ad 52)), (1, .int x1)] [] := by
    intro x1 T hR H locs ls w hl
    unfold fX12_plainNumber_j48 at hR
    refine lv_aload_n hx hb dX12_plainNumber_48 rfl (lv_at hl 0 rfl) ?_
    obtain ⟨r2, h1, hR⟩ := bd_e hR
    refine cVi (k := 52) (As := []) (rest := []) X hl.1 w okX12_here obX12 rfl lmX12_106 (kX12_here h1) ⟨Nat.le_of_ble_eq_true rfl, Nat.le_of_ble_eq_true rfl⟩ ⟨rfl, rfl⟩ ⟨Nat.zero_le _, Nat.zero_le _⟩ rfl rfl (Nat.le_of_ble_eq_true rfl) dX12_plainNumber_49 (fun H locs zr2 w => ?_)
    obtain ⟨r4, h3, hR⟩ := bd_e hR
    refine cSi (As := [.int r2]) (rest := []) X hl.1 w okX12_isDigit lmX12_125 (kX12_isDigit h3) ⟨Nat.le_of_ble_eq_true rfl, Nat.le_of_ble_eq_true rfl⟩ ⟨rfl, rfl⟩ ⟨Nat.zero_le _, Nat.zero_le _⟩ rfl rfl (Nat.le_of_ble_eq_true rfl) dX12_plainNumber_52 (fun H locs zr4 w => ?_)
    refine lv_if_eq (tgt := 62) hx hb dX12_plainNumber_55 (by decide) (fun c5 => ?_) (fun c5 => ?_)
    · rw [if_pos c5] at hR
      refine lv_iload_n hx hb dX12_plainNumber_62 rfl (lv_at hl 1 rfl) ?_
      rw [hQ]
      exact rt_i X hr hlk w hsz rfl rfl (lf2 hR).1 (lf2 hR).2 dX12_plainNumber_63
    · rw [if_neg c5] at hR
      refine lv_aload_n hx hb dX12_plainNumber_58 rfl (lv_at hl 0 rfl) ?_
      obtain ⟨T7, h6, hR⟩ := bd_e hR
      refine cVv (k := 52) (As := []) (rest := []) X hl.1 w okX12_bad obX12 rfl lmX12_119 (kX12_bad h6) ⟨Nat.le_of_ble_eq_true rfl, Nat.le_of_ble_eq_true rfl⟩ ⟨rfl, rfl⟩ ⟨Nat.zero_le _, Nat.zero_le _⟩ rfl rfl (Nat.le_of_ble_eq_true rfl) dX12_plainNumber_59 (fun H locs w => ?_)
      refine lv_iload_n hx hb dX12_plainNumber_62 rfl (lv_at hl 1 rfl) ?_
      rw [hQ]
      exact rt_i X hr hlk w hsz rfl rfl (lf2 hR).1 (lf2 hR).2 dX12_plainNumber_63
  have L4 : ∀ (n : Nat), ∀ (x1 : Int32) (x2 : Int32) (T : SS), fX12_plainNumber_l4 N n x1 x2 T = some (T', r) → WAT p l ev ({ frames := 1, cells := 0, slots := 0, locals := 20 } : Room) s m args below meth c QQ 3 D dA ad t1 t2 S T o 4 [(0, .ref (ad 52)), (1, .int x1), (2, .int x2)] [] := by
    intro n
    induction n with
    | zero =>
      intro x1 x2 T hR
      exact nomatch hR
    | succ n ih =>
      intro x1 x2 T hR H locs ls w hl
      rw [fX12_plainNumber_l4] at hR
      refine lv_iload_n hx hb dX12_plainNumber_4 rfl (lv_at hl 2 rfl) ?_
      refine lv_iconst (v := 4) hx hb dX12_plainNumber_5 (by decide) ?_
      refine lv_icmp_ge (tgt := 48) hx hb dX12_plainNumber_6 (by decide) (fun c1 => ?_) (fun c1 => ?_)
      · rw [if_pos c1] at hR
        exact J48 x1 T hR _ _ _ w (lv_sub hl [0, 1] rfl)
      · rw [if_neg c1] at hR
        refine lv_aload_n hx hb dX12_plainNumber_9 rfl (lv_at hl 0 rfl) ?_
        obtain ⟨r3, h2, hR⟩ := bd_e hR
        refine cVi (k := 52) (As := []) (rest := []) X hl.1 w okX12_here obX12 rfl lmX12_106 (kX12_here h2) ⟨Nat.le_of_ble_eq_true rfl, Nat.le_of_ble_eq_true rfl⟩ ⟨rfl, rfl⟩ ⟨Nat.zero_le _, Nat.zero_le _⟩ rfl rfl (Nat.le_of_ble_eq_true rfl) dX12_plainNumber_10 (fun H locs zr3 w => ?_)
        obtain ⟨r5, h4, hR⟩ := bd_e hR
        refine cSi (As := [.int r3]) (rest := []) X hl.1 w okX12_isDigit lmX12_125 (kX12_isDigit h4) ⟨Nat.le_of_ble_eq_true rfl, Nat.le_of_ble_eq_true rfl⟩ ⟨rfl, rfl⟩ ⟨Nat.zero_le _, Nat.zero_le _⟩ rfl rfl (Nat.le_of_ble_eq_true rfl) dX12_plainNumber_13 (fun H locs zr5 w => ?_)
        refine lv_if_eq (tgt := 48) hx hb dX12_plainNumber_16 (by decide) (fun c6 => ?_) (fun c6 => ?_)
        · rw [if_pos c6] at hR
          exact J48 x1 T hR _ _ _ w (lv_sub hl [0, 1] rfl)
        · rw [if_neg c6] at hR
          refine lv_bipush (v := 10) hx hb dX12_plainNumber_19 (by decide) ?_
          refine lv_iload_n hx hb dX12_plainNumber_21 rfl (lv_at hl 1 rfl) ?_
          refine lv_imul hx hb dX12_plainNumber_22 ?_
          refine lv_aload_n hx hb dX12_plainNumber_23 rfl (lv_at hl 0 rfl) ?_
          obtain ⟨r8, h7, hR⟩ := bd_e hR
          refine cVi (k := 52) (As := []) (rest := [.int (10 * x1)]) X hl.1 w okX12_here obX12 rfl lmX12_106 (kX12_here h7) ⟨Nat.le_of_ble_eq_true rfl, Nat.le_of_ble_eq_true rfl⟩ ⟨rfl, rfl⟩ ⟨Nat.zero_le _, Nat.zero_le _⟩ rfl rfl (Nat.le_of_ble_eq_true rfl) dX12_plainNumber_24 (fun H locs zr8 w => ?_)
          refine lv_iadd hx hb dX12_plainNumber_27 ?_
          refine lv_bipush (v := 48) hx hb dX12_plainNumber_28 (by decide) ?_
          refine lv_isub hx hb dX12_plainNumber_30 ?_
          obtain ⟨v9, ev9, hR⟩ := lt_e hR
          refine nm_i ev9 ?_
          refine lv_istore_n (lv' := [(1, .int v9), (0, .ref (ad 52)), (2, .int x2)]) hx hb dX12_plainNumber_31 rfl hl (by decide) rfl (fun ls hl => ?_)
          refine lv_aload_n hx hb dX12_plainNumber_32 rfl (lv_at hl 1 rfl) ?_
          refine lv_dup hx hb dX12_plainNumber_33 rfl ?_
          refine gX12_at X w lfX12_103 dX12_plainNumber_34 ?_
          refine lv_iconst (v := 1) hx hb dX12_plainNumber_37 (by decide) ?_
          refine lv_iadd hx hb dX12_plainNumber_38 ?_
          obtain ⟨T10, eT10, hR⟩ := lt_e hR
          refine pX12_at X w lfX12_103 dX12_plainNumber_39 (fun H locs w => ?_)
          rw [← eT10] at w
          obtain ⟨v11, ev11, hR⟩ := lt_e hR
          refine lv_iinc (v := v11) (lv' := [(2, .int v11), (1, .int v9), (0, .ref (ad 52))]) hx hb dX12_plainNumber_42 hl (k := 2) rfl (by rw [ev11]; rfl) (by decide) rfl (fun ls hl => ?_)
          refine lv_goto (tgt := 4) hx hb dX12_plainNumber_45 (by decide) ?_
          exact ih v9 v11 T10 hR _ _ _ w (lv_sub hl [2, 1, 0] rfl)
  have hl : lv_has ls 3 [(0, .ref (ad 52))] := hl
  unfold fX12_plainNumber at hR
  refine lv_iconst (v := 0) hx hb dX12_plainNumber_0 (by decide) ?_
  refine lv_istore_n (lv' := [(1, .int 0), (0, .ref (ad 52))]) hx hb dX12_plainNumber_1 rfl hl (by decide) rfl (fun ls hl => ?_)
  refine lv_iconst (v := 0) hx hb dX12_plainNumber_2 (by decide) ?_
  refine lv_istore_n (lv' := [(2, .int 0), (1, .int 0), (0, .ref (ad 52))]) hx hb dX12_plainNumber_3 rfl hl (by decide) rfl (fun ls hl => ?_)
  exact L4 N 0 0 T hR _ _ _ w (lv_sub hl [2, 1, 0] rfl)
/- LooseEndsModel.atom()V -/
def fX12_atom (N : Nat) (rec : SS → Option (SS)) (T : SS) : Option (SS) := b2 (fX12_look N T) fun T3 r2 =>
  bd (fX12_isDigit N r2) fun r5 =>
  if r5 = 0 then
  (bd (fX12_letterOf N r2) fun r8 =>
  if r8 = (-1) then
  (if r2 = 91 then
  (bd (fX12_opens N T3) fun T14 =>
  if (gi T14 52 4) = (-1) then
  (bd (rec T14) fun T17 =>
  bd (fX12_closes N T17 93) fun T19 =>
  some T19)
  else
  (some T14))
  else
  (bd (fX12_bad N T3) fun T12 =>
  some T12))
  else
  (lt (pj T3 52 3 ((gi T3 52 3) + 1)) fun T20 =>
  bd (fX12_letterOf N r2) fun r22 =>
  bd (fX12_put N T20 1 r22) fun T24 =>
  some T24))
  else
  (b2 (fX12_plainNumber N T3) fun T27 r26 =>
  bd (fX12_put N T27 0 r26) fun T29 =>
  some T29)
set_option maxHeartbeats 4000000 in
set_option maxRecDepth 100000 in
theorem kX12_atom {l : Launch} {D : va_G} {dA : Nat → ClassId} {ad : Nat → Nat} {t1 t2 : Nat} {N : Nat} {rec : SS → Option (SS)} {F L : Nat} (hrec : ∀ {S T : SS} {o : Nat → Int64} {T' : SS}, rec T = some T' → KV l D dA ad t1 t2 yX12_sum cX12_sum 2 { frames := F, cells := 0, slots := 0, locals := L } [.ref (ad 52)] S T o S T') {S T : SS} {o : Nat → Int64} {T' : SS} (hR : fX12_atom N rec T = some T') : KV l D dA ad t1 t2 yX12_atom cX12_atom 2 { frames := F + 3, cells := 0, slots := 0, locals := L + 61 } [.ref (ad 52)] S T o S T' := by
  intro sz
  refine en_ (plainFor_of_name (by decide)) (Nat.le_of_ble_eq_true rfl) ?_
  intro p ev s m args below meth c QQ hQ hsz X hr hlk w ls hl
  have hx := X.1
  have hb := X.2.1
  have hl : lv_has ls 2 [(0, .ref (ad 52))] := hl
  unfold fX12_atom at hR
  refine lv_aload_n hx hb dX12_atom_0 rfl (lv_at hl 0 rfl) ?_
  obtain ⟨T3, r2, h1, hR⟩ := b2_e hR
  refine cVi (k := 52) (As := []) (rest := []) X hl.1 w okX12_look obX12 rfl lmX12_122 (kX12_look h1) ⟨by show _ ≤ F + 3; dsimp only; omega, by show _ ≤ L + 61; simp only [List.map, Value.category, List.sum_cons, List.sum_nil, Nat.add_assoc]; omega⟩ ⟨rfl, rfl⟩ ⟨Nat.zero_le _, Nat.zero_le _⟩ rfl rfl (Nat.le_of_ble_eq_true rfl) dX12_atom_1 (fun H locs zr2 w => ?_)
  refine lv_istore_n (lv' := [(1, .int r2), (0, .ref (ad 52))]) hx hb dX12_atom_4 rfl hl (by decide) rfl (fun ls hl => ?_)
  refine lv_iload_n hx hb dX12_atom_5 rfl (lv_at hl 0 rfl) ?_
  obtain ⟨r5, h4, hR⟩ := bd_e hR
  refine cSi (As := [.int r2]) (rest := []) X hl.1 w okX12_isDigit lmX12_125 (kX12_isDigit h4) ⟨by show _ ≤ F + 3; dsimp only; omega, by show _ ≤ L + 61; simp only [List.map, Value.category, List.sum_cons, List.sum_nil, Nat.add_assoc]; omega⟩ ⟨rfl, rfl⟩ ⟨Nat.zero_le _, Nat.zero_le _⟩ rfl rfl (Nat.le_of_ble_eq_true rfl) dX12_atom_6 (fun H locs zr5 w => ?_)
  refine lv_if_eq (tgt := 24) hx hb dX12_atom_9 (by decide) (fun c6 => ?_) (fun c6 => ?_)
  · rw [if_pos c6] at hR
    refine lv_iload_n hx hb dX12_atom_24 rfl (lv_at hl 0 rfl) ?_
    obtain ⟨r8, h7, hR⟩ := bd_e hR
    refine cSi (As := [.int r2]) (rest := []) X hl.1 w okX12_letterOf lmX12_136 (kX12_letterOf h7) ⟨by show _ ≤ F + 3; dsimp only; omega, by show _ ≤ L + 61; simp only [List.map, Value.category, List.sum_cons, List.sum_nil, Nat.add_assoc]; omega⟩ ⟨rfl, rfl⟩ ⟨Nat.zero_le _, Nat.zero_le _⟩ rfl rfl (Nat.le_of_ble_eq_true rfl) dX12_atom_25 (fun H locs zr8 w => ?_)
    refine lv_iconst (v := -1) hx hb dX12_atom_28 (by decide) ?_
    refine lv_icmp_eq (tgt := 54) hx hb dX12_atom_29 (by decide) (fun c9 => ?_) (fun c9 => ?_)
    · rw [if_pos c9] at hR
      refine lv_iload_n hx hb dX12_atom_54 rfl (lv_at hl 0 rfl) ?_
      refine lv_bipush (v := 91) hx hb dX12_atom_55 (by decide) ?_
      refine lv_icmp_ne (tgt := 85) hx hb dX12_atom_57 (by decide) (fun c10 => ?_) (fun c10 => ?_)
      · rw [if_neg c10] at hR
        refine lv_aload_n hx hb dX12_atom_85 rfl (lv_at hl 1 rfl) ?_
        obtain ⟨T12, h11, hR⟩ := bd_e hR
        refine cVv (k := 52) (As := []) (rest := []) X hl.1 w okX12_bad obX12 rfl lmX12_119 (kX12_bad h11) ⟨by show _ ≤ F + 3; dsimp only; omega, by show _ ≤ L + 61; simp only [List.map, Value.category, List.sum_cons, List.sum_nil, Nat.add_assoc]; omega⟩ ⟨rfl, rfl⟩ ⟨Nat.zero_le _, Nat.zero_le _⟩ rfl rfl (Nat.le_of_ble_eq_true rfl) dX12_atom_86 (fun H locs w => ?_)
        rw [hQ]
        exact rt_v X hr hlk w hsz rfl (lf1 hR) dX12_atom_89
      · rw [if_pos c10] at hR
        refine lv_aload_n hx hb dX12_atom_60 rfl (lv_at hl 1 rfl) ?_
        obtain ⟨T14, h13, hR⟩ := bd_e hR
        refine cVv (k := 52) (As := []) (rest := []) X hl.1 w okX12_opens obX12 rfl lmX12_140 (kX12_opens h13) ⟨by show _ ≤ F + 3; dsimp only; omega, by show _ ≤ L + 61; simp only [List.map, Value.category, List.sum_cons, List.sum_nil, Nat.add_assoc]; omega⟩ ⟨rfl, rfl⟩ ⟨Nat.zero_le _, Nat.zero_le _⟩ rfl rfl (Nat.le_of_ble_eq_true rfl) dX12_atom_61 (fun H locs w => ?_)
        refine lv_aload_n hx hb dX12_atom_64 rfl (lv_at hl 1 rfl) ?_
        refine gX12_wrong X w lfX12_110 dX12_atom_65 ?_
        refine lv_iconst (v := -1) hx hb dX12_atom_68 (by decide) ?_
        refine lv_icmp_ne (tgt := 89) hx hb dX12_atom_69 (by decide) (fun c15 => ?_) (fun c15 => ?_)
        · rw [if_neg c15] at hR
          rw [hQ]
          exact rt_v X hr hlk w hsz rfl (lf1 hR) dX12_atom_89
        · rw [if_pos c15] at hR
          refine lv_aload_n hx hb dX12_atom_72 rfl (lv_at hl 1 rfl) ?_
          obtain ⟨T17, h16, hR⟩ := bd_e hR
          refine cVv (k := 52) (As := []) (rest := []) X hl.1 w okX12_sum obX12 rfl lmX12_143 (hrec h16) ⟨by show _ ≤ F + 3; dsimp only; omega, by show _ ≤ L + 61; simp only [List.map, Value.category, List.sum_cons, List.sum_nil, Nat.add_assoc]; omega⟩ ⟨rfl, rfl⟩ ⟨Nat.zero_le _, Nat.zero_le _⟩ rfl rfl (Nat.le_of_ble_eq_true rfl) dX12_atom_73 (fun H locs w => ?_)
          refine lv_aload_n hx hb dX12_atom_76 rfl (lv_at hl 1 rfl) ?_
          refine lv_bipush (v := 93) hx hb dX12_atom_77 (by decide) ?_
          obtain ⟨T19, h18, hR⟩ := bd_e hR
          refine cVv (k := 52) (As := [.int 93]) (rest := []) X hl.1 w okX12_closes obX12 rfl lmX12_146 (kX12_closes h18) ⟨by show _ ≤ F + 3; dsimp only; omega, by show _ ≤ L + 61; simp only [List.map, Value.category, List.sum_cons, List.sum_nil, Nat.add_assoc]; omega⟩ ⟨rfl, rfl⟩ ⟨Nat.zero_le _, Nat.zero_le _⟩ rfl rfl (Nat.le_of_ble_eq_true rfl) dX12_atom_79 (fun H locs w => ?_)
          refine lv_goto (tgt := 89) hx hb dX12_atom_82 (by decide) ?_
          rw [hQ]
          exact rt_v X hr hlk w hsz rfl (lf1 hR) dX12_atom_89
    · rw [if_neg c9] at hR
      refine lv_aload_n hx hb dX12_atom_32 rfl (lv_at hl 1 rfl) ?_
      refine lv_dup hx hb dX12_atom_33 rfl ?_
      refine gX12_at X w lfX12_103 dX12_atom_34 ?_
      refine lv_iconst (v := 1) hx hb dX12_atom_37 (by decide) ?_
      refine lv_iadd hx hb dX12_atom_38 ?_
      obtain ⟨T20, eT20, hR⟩ := lt_e hR
      refine pX12_at X w lfX12_103 dX12_atom_39 (fun H locs w => ?_)
      rw [← eT20] at w
      refine lv_aload_n hx hb dX12_atom_42 rfl (lv_at hl 1 rfl) ?_
      refine lv_iconst (v := 1) hx hb dX12_atom_43 (by decide) ?_
      refine lv_iload_n hx hb dX12_atom_44 rfl (lv_at hl 0 rfl) ?_
      obtain ⟨r22, h21, hR⟩ := bd_e hR
      refine cSi (As := [.int r2]) (rest := [.int 1, .ref (ad 52)]) X hl.1 w okX12_letterOf lmX12_136 (kX12_letterOf h21) ⟨by show _ ≤ F + 3; dsimp only; omega, by show _ ≤ L + 61; simp only [List.map, Value.category, List.sum_cons, List.sum_nil, Nat.add_assoc]; omega⟩ ⟨rfl, rfl⟩ ⟨Nat.zero_le _, Nat.zero_le _⟩ rfl rfl (Nat.le_of_ble_eq_true rfl) dX12_atom_45 (fun H locs zr22 w => ?_)
      obtain ⟨T24, h23, hR⟩ := bd_e hR
      refine cVv (k := 52) (As := [.int 1, .int r22]) (rest := []) X hl.1 w okX12_put obX12 rfl lmX12_132 (kX12_put h23) ⟨by show _ ≤ F + 3; dsimp only; omega, by show _ ≤ L + 61; simp only [List.map, Value.category, List.sum_cons, List.sum_nil, Nat.add_assoc]; omega⟩ ⟨rfl, rfl⟩ ⟨Nat.zero_le _, Nat.zero_le _⟩ rfl rfl (Nat.le_of_ble_eq_true rfl) dX12_atom_48 (fun H locs w => ?_)
      refine lv_goto (tgt := 89) hx hb dX12_atom_51 (by decide) ?_
      rw [hQ]
      exact rt_v X hr hlk w hsz rfl (lf1 hR) dX12_atom_89
  · rw [if_neg c6] at hR
    refine lv_aload_n hx hb dX12_atom_12 rfl (lv_at hl 1 rfl) ?_
    refine lv_iconst (v := 0) hx hb dX12_atom_13 (by decide) ?_
    refine lv_aload_n hx hb dX12_atom_14 rfl (lv_at hl 1 rfl) ?_
    obtain ⟨T27, r26, h25, hR⟩ := b2_e hR
    refine cVi (k := 52) (As := []) (rest := [.int 0, .ref (ad 52)]) X hl.1 w okX12_plainNumber obX12 rfl lmX12_129 (kX12_plainNumber h25) ⟨by show _ ≤ F + 3; dsimp only; omega, by show _ ≤ L + 61; simp only [List.map, Value.category, List.sum_cons, List.sum_nil, Nat.add_assoc]; omega⟩ ⟨rfl, rfl⟩ ⟨Nat.zero_le _, Nat.zero_le _⟩ rfl rfl (Nat.le_of_ble_eq_true rfl) dX12_atom_15 (fun H locs zr26 w => ?_)
    obtain ⟨T29, h28, hR⟩ := bd_e hR
    refine cVv (k := 52) (As := [.int 0, .int r26]) (rest := []) X hl.1 w okX12_put obX12 rfl lmX12_132 (kX12_put h28) ⟨by show _ ≤ F + 3; dsimp only; omega, by show _ ≤ L + 61; simp only [List.map, Value.category, List.sum_cons, List.sum_nil, Nat.add_assoc]; omega⟩ ⟨rfl, rfl⟩ ⟨Nat.zero_le _, Nat.zero_le _⟩ rfl rfl (Nat.le_of_ble_eq_true rfl) dX12_atom_18 (fun H locs w => ?_)
    refine lv_goto (tgt := 89) hx hb dX12_atom_21 (by decide) ?_
    rw [hQ]
    exact rt_v X hr hlk w hsz rfl (lf1 hR) dX12_atom_89
/- LooseEndsModel.term()V -/
def fX12_term_j59 (N : Nat) (rec : SS → Option (SS)) (kc21 : Int32 → SS → Option (SS)) (y0 : Int32) (T : SS) : Option (SS) := bd (fX12_put N T y0 0) fun T2 =>
  if (gi T2 52 4) = (-1) then
  (b2 (fX12_look N T2) fun T7 r6 =>
  kc21 r6 T7)
  else
  (lt ((-1)) fun v4 =>
  kc21 v4 T2)
def fX12_term_j33 (N : Nat) (rec : SS → Option (SS)) (kc21 : Int32 → SS → Option (SS)) (x1 : Int32) (T : SS) : Option (SS) := lt (pj T 52 3 ((gi T 52 3) + 1)) fun T1 =>
  bd (fX12_atom N rec T1) fun T3 =>
  if x1 = 42 then
  (fX12_term_j59 N rec kc21 4 T3)
  else
  (fX12_term_j59 N rec kc21 5 T3)
def fX12_term_l21 (N : Nat) (rec : SS → Option (SS)) : Nat → Int32 → SS → Option (SS)
  | 0, _, _ => none
  | n + 1, x1, T => if x1 = 42 then
  (fX12_term_j33 N rec (fX12_term_l21 N rec n) x1 T)
  else
  (if x1 = 47 then
  (fX12_term_j33 N rec (fX12_term_l21 N rec n) x1 T)
  else
  (some T))
def fX12_term (N : Nat) (rec : SS → Option (SS)) (T : SS) : Option (SS) := bd (fX12_atom N rec T) fun T2 =>
  if (gi T2 52 4) = (-1) then
  (b2 (fX12_look N T2) fun T7 r6 =>
  fX12_term_l21 N rec N r6 T7)
  else
  (lt ((-1)) fun v4 =>
  fX12_term_l21 N rec N v4 T2)
set_option maxHeartbeats 4000000 in
set_option maxRecDepth 100000 in
theorem kX12_term {l : Launch} {D : va_G} {dA : Nat → ClassId} {ad : Nat → Nat} {t1 t2 : Nat} {N : Nat} {rec : SS → Option (SS)} {F L : Nat} (hrec : ∀ {S T : SS} {o : Nat → Int64} {T' : SS}, rec T = some T' → KV l D dA ad t1 t2 yX12_sum cX12_sum 2 { frames := F, cells := 0, slots := 0, locals := L } [.ref (ad 52)] S T o S T') {S T : SS} {o : Nat → Int64} {T' : SS} (hR : fX12_term N rec T = some T') : KV l D dA ad t1 t2 yX12_term cX12_term 2 { frames := F + 4, cells := 0, slots := 0, locals := L + 82 } [.ref (ad 52)] S T o S T' := by
  intro sz
  refine en_ (plainFor_of_name (by decide)) (Nat.le_of_ble_eq_true rfl) ?_
  intro p ev s m args below meth c QQ hQ hsz X hr hlk w ls hl
  have hx := X.1
  have hb := X.2.1
  have J59 : ∀ (kc21 : Int32 → SS → Option (SS)) (_ : ∀ (x1 : Int32) (T : SS), kc21 x1 T = some T' → WAT p l ev ({ frames := F + 4, cells := 0, slots := 0, locals := L + 82 } : Room) s m args below meth c QQ 2 D dA ad t1 t2 S T o 21 [(0, .ref (ad 52)), (1, .int x1)] []), ∀ (y0 : Int32) (T : SS), fX12_term_j59 N rec kc21 y0 T = some T' → WAT p l ev ({ frames := F + 4, cells := 0, slots := 0, locals := L + 82 } : Room) s m args below meth c QQ 2 D dA ad t1 t2 S T o 59 [(0, .ref (ad 52))] [.int y0, .ref (ad 52)] := by
    intro kc21 hk21 y0 T hR H locs ls w hl
    unfold fX12_term_j59 at hR
    refine lv_iconst (v := 0) hx hb dX12_term_59 (by decide) ?_
    obtain ⟨T2, h1, hR⟩ := bd_e hR
    refine cVv (k := 52) (As := [.int y0, .int 0]) (rest := []) X hl.1 w okX12_put obX12 rfl lmX12_132 (kX12_put h1) ⟨by show _ ≤ F + 4; dsimp only; omega, by show _ ≤ L + 82; simp only [List.map, Value.category, List.sum_cons, List.sum_nil, Nat.add_assoc]; omega⟩ ⟨rfl, rfl⟩ ⟨Nat.zero_le _, Nat.zero_le _⟩ rfl rfl (Nat.le_of_ble_eq_true rfl) dX12_term_60 (fun H locs w => ?_)
    refine lv_aload_n hx hb dX12_term_63 rfl (lv_at hl 0 rfl) ?_
    refine gX12_wrong X w lfX12_110 dX12_term_64 ?_
    refine lv_iconst (v := -1) hx hb dX12_term_67 (by decide) ?_
    refine lv_icmp_ne (tgt := 78) hx hb dX12_term_68 (by decide) (fun c3 => ?_) (fun c3 => ?_)
    · rw [if_neg c3] at hR
      refine lv_iconst (v := -1) hx hb dX12_term_78 (by decide) ?_
      obtain ⟨v4, ev4, hR⟩ := lt_e hR
      refine nm_i ev4 ?_
      refine lv_istore_n (lv' := [(1, .int v4), (0, .ref (ad 52))]) hx hb dX12_term_79 rfl hl (by decide) rfl (fun ls hl => ?_)
      refine lv_goto (tgt := 21) hx hb dX12_term_80 (by decide) ?_
      exact hk21 v4 T2 hR _ _ _ w (lv_sub hl [1, 0] rfl)
    · rw [if_pos c3] at hR
      refine lv_aload_n hx hb dX12_term_71 rfl (lv_at hl 0 rfl) ?_
      obtain ⟨T7, r6, h5, hR⟩ := b2_e hR
      refine cVi (k := 52) (As := []) (rest := []) X hl.1 w okX12_look obX12 rfl lmX12_122 (kX12_look h5) ⟨by show _ ≤ F + 4; dsimp only; omega, by show _ ≤ L + 82; simp only [List.map, Value.category, List.sum_cons, List.sum_nil, Nat.add_assoc]; omega⟩ ⟨rfl, rfl⟩ ⟨Nat.zero_le _, Nat.zero_le _⟩ rfl rfl (Nat.le_of_ble_eq_true rfl) dX12_term_72 (fun H locs zr6 w => ?_)
      refine lv_goto (tgt := 79) hx hb dX12_term_75 (by decide) ?_
      refine lv_istore_n (lv' := [(1, .int r6), (0, .ref (ad 52))]) hx hb dX12_term_79 rfl hl (by decide) rfl (fun ls hl => ?_)
      refine lv_goto (tgt := 21) hx hb dX12_term_80 (by decide) ?_
      exact hk21 r6 T7 hR _ _ _ w (lv_sub hl [1, 0] rfl)
  have J33 : ∀ (kc21 : Int32 → SS → Option (SS)) (_ : ∀ (x1 : Int32) (T : SS), kc21 x1 T = some T' → WAT p l ev ({ frames := F + 4, cells := 0, slots := 0, locals := L + 82 } : Room) s m args below meth c QQ 2 D dA ad t1 t2 S T o 21 [(0, .ref (ad 52)), (1, .int x1)] []), ∀ (x1 : Int32) (T : SS), fX12_term_j33 N rec kc21 x1 T = some T' → WAT p l ev ({ frames := F + 4, cells := 0, slots := 0, locals := L + 82 } : Room) s m args below meth c QQ 2 D dA ad t1 t2 S T o 33 [(0, .ref (ad 52)), (1, .int x1)] [] := by
    intro kc21 hk21 x1 T hR H locs ls w hl
    unfold fX12_term_j33 at hR
    refine lv_aload_n hx hb dX12_term_33 rfl (lv_at hl 0 rfl) ?_
    refine lv_dup hx hb dX12_term_34 rfl ?_
    refine gX12_at X w lfX12_103 dX12_term_35 ?_
    refine lv_iconst (v := 1) hx hb dX12_term_38 (by decide) ?_
    refine lv_iadd hx hb dX12_term_39 ?_
    obtain ⟨T1, eT1, hR⟩ := lt_e hR
    refine pX12_at X w lfX12_103 dX12_term_40 (fun H locs w => ?_)
    rw [← eT1] at w
    refine lv_aload_n hx hb dX12_term_43 rfl (lv_at hl 0 rfl) ?_
    obtain ⟨T3, h2, hR⟩ := bd_e hR
    refine cVv (k := 52) (As := []) (rest := []) X hl.1 w okX12_atom obX12 rfl lmX12_150 (kX12_atom hrec h2) ⟨by show _ ≤ F + 4; dsimp only; omega, by show _ ≤ L + 82; simp only [List.map, Value.category, List.sum_cons, List.sum_nil, Nat.add_assoc]; omega⟩ ⟨rfl, rfl⟩ ⟨Nat.zero_le _, Nat.zero_le _⟩ rfl rfl (Nat.le_of_ble_eq_true rfl) dX12_term_44 (fun H locs w => ?_)
    refine lv_aload_n hx hb dX12_term_47 rfl (lv_at hl 0 rfl) ?_
    refine lv_iload_n hx hb dX12_term_48 rfl (lv_at hl 1 rfl) ?_
    refine lv_bipush (v := 42) hx hb dX12_term_49 (by decide) ?_
    refine lv_icmp_ne (tgt := 58) hx hb dX12_term_51 (by decide) (fun c4 => ?_) (fun c4 => ?_)
    · rw [if_neg c4] at hR
      refine lv_iconst (v := 5) hx hb dX12_term_58 (by decide) ?_
      exact J59 _ hk21 5 T3 hR _ _ _ w (lv_sub hl [0] rfl)
    · rw [if_pos c4] at hR
      refine lv_iconst (v := 4) hx hb dX12_term_54 (by decide) ?_
      refine lv_goto (tgt := 59) hx hb dX12_term_55 (by decide) ?_
      exact J59 _ hk21 4 T3 hR _ _ _ w (lv_sub hl [0] rfl)
  have L21 : ∀ (n : Nat), ∀ (x1 : Int32) (T : SS), fX12_term_l21 N rec n x1 T = some T' → WAT p l ev ({ frames := F + 4, cells := 0, slots := 0, locals := L + 82 } : Room) s m args below meth c QQ 2 D dA ad t1 t2 S T o 21 [(0, .ref (ad 52)), (1, .int x1)] [] := by
    intro n
    induction n with
    | zero =>
      intro x1 T hR
      exact nomatch hR
    | succ n ih =>
      intro x1 T hR H locs ls w hl
      rw [fX12_term_l21] at hR
      refine lv_iload_n hx hb dX12_term_21 rfl (lv_at hl 1 rfl) ?_
      refine lv_bipush (v := 42) hx hb dX12_term_22 (by decide) ?_
      refine lv_icmp_eq (tgt := 33) hx hb dX12_term_24 (by decide) (fun c1 => ?_) (fun c1 => ?_)
      · rw [if_pos c1] at hR
        exact J33 _ ih x1 T hR _ _ _ w (lv_sub hl [0, 1] rfl)
      · rw [if_neg c1] at hR
        refine lv_iload_n hx hb dX12_term_27 rfl (lv_at hl 1 rfl) ?_
        refine lv_bipush (v := 47) hx hb dX12_term_28 (by decide) ?_
        refine lv_icmp_ne (tgt := 83) hx hb dX12_term_30 (by decide) (fun c2 => ?_) (fun c2 => ?_)
        · rw [if_neg c2] at hR
          rw [hQ]
          exact rt_v X hr hlk w hsz rfl (lf1 hR) dX12_term_83
        · rw [if_pos c2] at hR
          exact J33 _ ih x1 T hR _ _ _ w (lv_sub hl [0, 1] rfl)
  have hl : lv_has ls 2 [(0, .ref (ad 52))] := hl
  unfold fX12_term at hR
  refine lv_aload_n hx hb dX12_term_0 rfl (lv_at hl 0 rfl) ?_
  obtain ⟨T2, h1, hR⟩ := bd_e hR
  refine cVv (k := 52) (As := []) (rest := []) X hl.1 w okX12_atom obX12 rfl lmX12_150 (kX12_atom hrec h1) ⟨by show _ ≤ F + 4; dsimp only; omega, by show _ ≤ L + 82; simp only [List.map, Value.category, List.sum_cons, List.sum_nil, Nat.add_assoc]; omega⟩ ⟨rfl, rfl⟩ ⟨Nat.zero_le _, Nat.zero_le _⟩ rfl rfl (Nat.le_of_ble_eq_true rfl) dX12_term_1 (fun H locs w => ?_)
  refine lv_aload_n hx hb dX12_term_4 rfl (lv_at hl 0 rfl) ?_
  refine gX12_wrong X w lfX12_110 dX12_term_5 ?_
  refine lv_iconst (v := -1) hx hb dX12_term_8 (by decide) ?_
  refine lv_icmp_ne (tgt := 19) hx hb dX12_term_9 (by decide) (fun c3 => ?_) (fun c3 => ?_)
  · rw [if_neg c3] at hR
    refine lv_iconst (v := -1) hx hb dX12_term_19 (by decide) ?_
    obtain ⟨v4, ev4, hR⟩ := lt_e hR
    refine nm_i ev4 ?_
    refine lv_istore_n (lv' := [(1, .int v4), (0, .ref (ad 52))]) hx hb dX12_term_20 rfl hl (by decide) rfl (fun ls hl => ?_)
    exact L21 N v4 T2 hR _ _ _ w (lv_sub hl [1, 0] rfl)
  · rw [if_pos c3] at hR
    refine lv_aload_n hx hb dX12_term_12 rfl (lv_at hl 0 rfl) ?_
    obtain ⟨T7, r6, h5, hR⟩ := b2_e hR
    refine cVi (k := 52) (As := []) (rest := []) X hl.1 w okX12_look obX12 rfl lmX12_122 (kX12_look h5) ⟨by show _ ≤ F + 4; dsimp only; omega, by show _ ≤ L + 82; simp only [List.map, Value.category, List.sum_cons, List.sum_nil, Nat.add_assoc]; omega⟩ ⟨rfl, rfl⟩ ⟨Nat.zero_le _, Nat.zero_le _⟩ rfl rfl (Nat.le_of_ble_eq_true rfl) dX12_term_13 (fun H locs zr6 w => ?_)
    refine lv_goto (tgt := 20) hx hb dX12_term_16 (by decide) ?_
    refine lv_istore_n (lv' := [(1, .int r6), (0, .ref (ad 52))]) hx hb dX12_term_20 rfl hl (by decide) rfl (fun ls hl => ?_)
    exact L21 N r6 T7 hR _ _ _ w (lv_sub hl [1, 0] rfl)
/- LooseEndsModel.sum()V -/
def fX12_sum_j59 (N : Nat) (rec : SS → Option (SS)) (kc21 : Int32 → SS → Option (SS)) (y0 : Int32) (T : SS) : Option (SS) := bd (fX12_put N T y0 0) fun T2 =>
  if (gi T2 52 4) = (-1) then
  (b2 (fX12_look N T2) fun T7 r6 =>
  kc21 r6 T7)
  else
  (lt ((-1)) fun v4 =>
  kc21 v4 T2)
def fX12_sum_j33 (N : Nat) (rec : SS → Option (SS)) (kc21 : Int32 → SS → Option (SS)) (x1 : Int32) (T : SS) : Option (SS) := lt (pj T 52 3 ((gi T 52 3) + 1)) fun T1 =>
  bd (fX12_term N rec T1) fun T3 =>
  if x1 = 43 then
  (fX12_sum_j59 N rec kc21 2 T3)
  else
  (fX12_sum_j59 N rec kc21 3 T3)
def fX12_sum_l21 (N : Nat) (rec : SS → Option (SS)) : Nat → Int32 → SS → Option (SS)
  | 0, _, _ => none
  | n + 1, x1, T => if x1 = 43 then
  (fX12_sum_j33 N rec (fX12_sum_l21 N rec n) x1 T)
  else
  (if x1 = 45 then
  (fX12_sum_j33 N rec (fX12_sum_l21 N rec n) x1 T)
  else
  (some T))
def fX12_sum_b (N : Nat) (rec : SS → Option (SS)) (T : SS) : Option (SS) := bd (fX12_term N rec T) fun T2 =>
  if (gi T2 52 4) = (-1) then
  (b2 (fX12_look N T2) fun T7 r6 =>
  fX12_sum_l21 N rec N r6 T7)
  else
  (lt ((-1)) fun v4 =>
  fX12_sum_l21 N rec N v4 T2)
def fX12_sum (N : Nat) : Nat → SS → Option (SS)
  | 0, _ => none
  | d + 1, T => fX12_sum_b N (fX12_sum N d) T
set_option maxHeartbeats 4000000 in
set_option maxRecDepth 100000 in
theorem kX12_sum_b {l : Launch} {D : va_G} {dA : Nat → ClassId} {ad : Nat → Nat} {t1 t2 : Nat} {N : Nat} {rec : SS → Option (SS)} {F L : Nat} (hrec : ∀ {S T : SS} {o : Nat → Int64} {T' : SS}, rec T = some T' → KV l D dA ad t1 t2 yX12_sum cX12_sum 2 { frames := F, cells := 0, slots := 0, locals := L } [.ref (ad 52)] S T o S T') {S T : SS} {o : Nat → Int64} {T' : SS} (hR : fX12_sum_b N rec T = some T') : KV l D dA ad t1 t2 yX12_sum cX12_sum 2 { frames := F + 5, cells := 0, slots := 0, locals := L + 103 } [.ref (ad 52)] S T o S T' := by
  intro sz
  refine en_ (plainFor_of_name (by decide)) (Nat.le_of_ble_eq_true rfl) ?_
  intro p ev s m args below meth c QQ hQ hsz X hr hlk w ls hl
  have hx := X.1
  have hb := X.2.1
  have J59 : ∀ (kc21 : Int32 → SS → Option (SS)) (_ : ∀ (x1 : Int32) (T : SS), kc21 x1 T = some T' → WAT p l ev ({ frames := F + 5, cells := 0, slots := 0, locals := L + 103 } : Room) s m args below meth c QQ 2 D dA ad t1 t2 S T o 21 [(0, .ref (ad 52)), (1, .int x1)] []), ∀ (y0 : Int32) (T : SS), fX12_sum_j59 N rec kc21 y0 T = some T' → WAT p l ev ({ frames := F + 5, cells := 0, slots := 0, locals := L + 103 } : Room) s m args below meth c QQ 2 D dA ad t1 t2 S T o 59 [(0, .ref (ad 52))] [.int y0, .ref (ad 52)] := by
    intro kc21 hk21 y0 T hR H locs ls w hl
    unfold fX12_sum_j59 at hR
    refine lv_iconst (v := 0) hx hb dX12_sum_59 (by decide) ?_
    obtain ⟨T2, h1, hR⟩ := bd_e hR
    refine cVv (k := 52) (As := [.int y0, .int 0]) (rest := []) X hl.1 w okX12_put obX12 rfl lmX12_132 (kX12_put h1) ⟨by show _ ≤ F + 5; dsimp only; omega, by show _ ≤ L + 103; simp only [List.map, Value.category, List.sum_cons, List.sum_nil, Nat.add_assoc]; omega⟩ ⟨rfl, rfl⟩ ⟨Nat.zero_le _, Nat.zero_le _⟩ rfl rfl (Nat.le_of_ble_eq_true rfl) dX12_sum_60 (fun H locs w => ?_)
    refine lv_aload_n hx hb dX12_sum_63 rfl (lv_at hl 0 rfl) ?_
    refine gX12_wrong X w lfX12_110 dX12_sum_64 ?_
    refine lv_iconst (v := -1) hx hb dX12_sum_67 (by decide) ?_
    refine lv_icmp_ne (tgt := 78) hx hb dX12_sum_68 (by decide) (fun c3 => ?_) (fun c3 => ?_)
    · rw [if_neg c3] at hR
      refine lv_iconst (v := -1) hx hb dX12_sum_78 (by decide) ?_
      obtain ⟨v4, ev4, hR⟩ := lt_e hR
      refine nm_i ev4 ?_
      refine lv_istore_n (lv' := [(1, .int v4), (0, .ref (ad 52))]) hx hb dX12_sum_79 rfl hl (by decide) rfl (fun ls hl => ?_)
      refine lv_goto (tgt := 21) hx hb dX12_sum_80 (by decide) ?_
      exact hk21 v4 T2 hR _ _ _ w (lv_sub hl [1, 0] rfl)
    · rw [if_pos c3] at hR
      refine lv_aload_n hx hb dX12_sum_71 rfl (lv_at hl 0 rfl) ?_
      obtain ⟨T7, r6, h5, hR⟩ := b2_e hR
      refine cVi (k := 52) (As := []) (rest := []) X hl.1 w okX12_look obX12 rfl lmX12_122 (kX12_look h5) ⟨by show _ ≤ F + 5; dsimp only; omega, by show _ ≤ L + 103; simp only [List.map, Value.category, List.sum_cons, List.sum_nil, Nat.add_assoc]; omega⟩ ⟨rfl, rfl⟩ ⟨Nat.zero_le _, Nat.zero_le _⟩ rfl rfl (Nat.le_of_ble_eq_true rfl) dX12_sum_72 (fun H locs zr6 w => ?_)
      refine lv_goto (tgt := 79) hx hb dX12_sum_75 (by decide) ?_
      refine lv_istore_n (lv' := [(1, .int r6), (0, .ref (ad 52))]) hx hb dX12_sum_79 rfl hl (by decide) rfl (fun ls hl => ?_)
      refine lv_goto (tgt := 21) hx hb dX12_sum_80 (by decide) ?_
      exact hk21 r6 T7 hR _ _ _ w (lv_sub hl [1, 0] rfl)
  have J33 : ∀ (kc21 : Int32 → SS → Option (SS)) (_ : ∀ (x1 : Int32) (T : SS), kc21 x1 T = some T' → WAT p l ev ({ frames := F + 5, cells := 0, slots := 0, locals := L + 103 } : Room) s m args below meth c QQ 2 D dA ad t1 t2 S T o 21 [(0, .ref (ad 52)), (1, .int x1)] []), ∀ (x1 : Int32) (T : SS), fX12_sum_j33 N rec kc21 x1 T = some T' → WAT p l ev ({ frames := F + 5, cells := 0, slots := 0, locals := L + 103 } : Room) s m args below meth c QQ 2 D dA ad t1 t2 S T o 33 [(0, .ref (ad 52)), (1, .int x1)] [] := by
    intro kc21 hk21 x1 T hR H locs ls w hl
    unfold fX12_sum_j33 at hR
    refine lv_aload_n hx hb dX12_sum_33 rfl (lv_at hl 0 rfl) ?_
    refine lv_dup hx hb dX12_sum_34 rfl ?_
    refine gX12_at X w lfX12_103 dX12_sum_35 ?_
    refine lv_iconst (v := 1) hx hb dX12_sum_38 (by decide) ?_
    refine lv_iadd hx hb dX12_sum_39 ?_
    obtain ⟨T1, eT1, hR⟩ := lt_e hR
    refine pX12_at X w lfX12_103 dX12_sum_40 (fun H locs w => ?_)
    rw [← eT1] at w
    refine lv_aload_n hx hb dX12_sum_43 rfl (lv_at hl 0 rfl) ?_
    obtain ⟨T3, h2, hR⟩ := bd_e hR
    refine cVv (k := 52) (As := []) (rest := []) X hl.1 w okX12_term obX12 rfl lmX12_153 (kX12_term hrec h2) ⟨by show _ ≤ F + 5; dsimp only; omega, by show _ ≤ L + 103; simp only [List.map, Value.category, List.sum_cons, List.sum_nil, Nat.add_assoc]; omega⟩ ⟨rfl, rfl⟩ ⟨Nat.zero_le _, Nat.zero_le _⟩ rfl rfl (Nat.le_of_ble_eq_true rfl) dX12_sum_44 (fun H locs w => ?_)
    refine lv_aload_n hx hb dX12_sum_47 rfl (lv_at hl 0 rfl) ?_
    refine lv_iload_n hx hb dX12_sum_48 rfl (lv_at hl 1 rfl) ?_
    refine lv_bipush (v := 43) hx hb dX12_sum_49 (by decide) ?_
    refine lv_icmp_ne (tgt := 58) hx hb dX12_sum_51 (by decide) (fun c4 => ?_) (fun c4 => ?_)
    · rw [if_neg c4] at hR
      refine lv_iconst (v := 3) hx hb dX12_sum_58 (by decide) ?_
      exact J59 _ hk21 3 T3 hR _ _ _ w (lv_sub hl [0] rfl)
    · rw [if_pos c4] at hR
      refine lv_iconst (v := 2) hx hb dX12_sum_54 (by decide) ?_
      refine lv_goto (tgt := 59) hx hb dX12_sum_55 (by decide) ?_
      exact J59 _ hk21 2 T3 hR _ _ _ w (lv_sub hl [0] rfl)
  have L21 : ∀ (n : Nat), ∀ (x1 : Int32) (T : SS), fX12_sum_l21 N rec n x1 T = some T' → WAT p l ev ({ frames := F + 5, cells := 0, slots := 0, locals := L + 103 } : Room) s m args below meth c QQ 2 D dA ad t1 t2 S T o 21 [(0, .ref (ad 52)), (1, .int x1)] [] := by
    intro n
    induction n with
    | zero =>
      intro x1 T hR
      exact nomatch hR
    | succ n ih =>
      intro x1 T hR H locs ls w hl
      rw [fX12_sum_l21] at hR
      refine lv_iload_n hx hb dX12_sum_21 rfl (lv_at hl 1 rfl) ?_
      refine lv_bipush (v := 43) hx hb dX12_sum_22 (by decide) ?_
      refine lv_icmp_eq (tgt := 33) hx hb dX12_sum_24 (by decide) (fun c1 => ?_) (fun c1 => ?_)
      · rw [if_pos c1] at hR
        exact J33 _ ih x1 T hR _ _ _ w (lv_sub hl [0, 1] rfl)
      · rw [if_neg c1] at hR
        refine lv_iload_n hx hb dX12_sum_27 rfl (lv_at hl 1 rfl) ?_
        refine lv_bipush (v := 45) hx hb dX12_sum_28 (by decide) ?_
        refine lv_icmp_ne (tgt := 83) hx hb dX12_sum_30 (by decide) (fun c2 => ?_) (fun c2 => ?_)
        · rw [if_neg c2] at hR
          rw [hQ]
          exact rt_v X hr hlk w hsz rfl (lf1 hR) dX12_sum_83
        · rw [if_pos c2] at hR
          exact J33 _ ih x1 T hR _ _ _ w (lv_sub hl [0, 1] rfl)
  have hl : lv_has ls 2 [(0, .ref (ad 52))] := hl
  unfold fX12_sum_b at hR
  refine lv_aload_n hx hb dX12_sum_0 rfl (lv_at hl 0 rfl) ?_
  obtain ⟨T2, h1, hR⟩ := bd_e hR
  refine cVv (k := 52) (As := []) (rest := []) X hl.1 w okX12_term obX12 rfl lmX12_153 (kX12_term hrec h1) ⟨by show _ ≤ F + 5; dsimp only; omega, by show _ ≤ L + 103; simp only [List.map, Value.category, List.sum_cons, List.sum_nil, Nat.add_assoc]; omega⟩ ⟨rfl, rfl⟩ ⟨Nat.zero_le _, Nat.zero_le _⟩ rfl rfl (Nat.le_of_ble_eq_true rfl) dX12_sum_1 (fun H locs w => ?_)
  refine lv_aload_n hx hb dX12_sum_4 rfl (lv_at hl 0 rfl) ?_
  refine gX12_wrong X w lfX12_110 dX12_sum_5 ?_
  refine lv_iconst (v := -1) hx hb dX12_sum_8 (by decide) ?_
  refine lv_icmp_ne (tgt := 19) hx hb dX12_sum_9 (by decide) (fun c3 => ?_) (fun c3 => ?_)
  · rw [if_neg c3] at hR
    refine lv_iconst (v := -1) hx hb dX12_sum_19 (by decide) ?_
    obtain ⟨v4, ev4, hR⟩ := lt_e hR
    refine nm_i ev4 ?_
    refine lv_istore_n (lv' := [(1, .int v4), (0, .ref (ad 52))]) hx hb dX12_sum_20 rfl hl (by decide) rfl (fun ls hl => ?_)
    exact L21 N v4 T2 hR _ _ _ w (lv_sub hl [1, 0] rfl)
  · rw [if_pos c3] at hR
    refine lv_aload_n hx hb dX12_sum_12 rfl (lv_at hl 0 rfl) ?_
    obtain ⟨T7, r6, h5, hR⟩ := b2_e hR
    refine cVi (k := 52) (As := []) (rest := []) X hl.1 w okX12_look obX12 rfl lmX12_122 (kX12_look h5) ⟨by show _ ≤ F + 5; dsimp only; omega, by show _ ≤ L + 103; simp only [List.map, Value.category, List.sum_cons, List.sum_nil, Nat.add_assoc]; omega⟩ ⟨rfl, rfl⟩ ⟨Nat.zero_le _, Nat.zero_le _⟩ rfl rfl (Nat.le_of_ble_eq_true rfl) dX12_sum_13 (fun H locs zr6 w => ?_)
    refine lv_goto (tgt := 20) hx hb dX12_sum_16 (by decide) ?_
    refine lv_istore_n (lv' := [(1, .int r6), (0, .ref (ad 52))]) hx hb dX12_sum_20 rfl hl (by decide) rfl (fun ls hl => ?_)
    exact L21 N r6 T7 hR _ _ _ w (lv_sub hl [1, 0] rfl)
theorem kX12_sum {l : Launch} {D : va_G} {dA : Nat → ClassId} {ad : Nat → Nat} {t1 t2 : Nat} {N : Nat} (d : Nat) : ∀ {S T : SS} {o : Nat → Int64} {T' : SS}, fX12_sum N d T = some T' → KV l D dA ad t1 t2 yX12_sum cX12_sum 2 { frames := 5 * d, cells := 0, slots := 0, locals := 103 * d } [.ref (ad 52)] S T o S T' := by
  induction d with
  | zero =>
    intro S T o T' hR
    exact nomatch hR
  | succ d ih =>
    intro S T o T' hR
    exact kX12_sum_b ih hR
/- LooseEndsModel.isSign(I)Z -/
def fX12_isSign (N : Nat) (p0 : Int32) : Option (Int32) := if p0 = 61 then
  (some 1)
  else
  (if p0 = 60 then
  (some 1)
  else
  (if p0 = 62 then
  (some 1)
  else
  (some 0)))
set_option maxHeartbeats 4000000 in
set_option maxRecDepth 100000 in
theorem kX12_isSign {l : Launch} {D : va_G} {dA : Nat → ClassId} {ad : Nat → Nat} {t1 t2 : Nat} {N : Nat} {S T : SS} {o : Nat → Int64} {p0 : Int32} {r : Int32} (hR : fX12_isSign N p0 = some r) : KI l D dA ad t1 t2 yX12_isSign cX12_isSign 1 .boolean { frames := 0, cells := 0, slots := 0, locals := 0 } [.int p0] S T o r S T := by
  intro sz
  refine en_ (plainFor_of_name (by decide)) (Nat.le_of_ble_eq_true rfl) ?_
  intro p ev s m args below meth c QQ hQ hsz X hr hlk w ls hl
  have hx := X.1
  have hb := X.2.1
  have hl : lv_has ls 1 [(0, .int p0)] := hl
  unfold fX12_isSign at hR
  refine lv_iload_n hx hb dX12_isSign_0 rfl (lv_at hl 0 rfl) ?_
  refine lv_bipush (v := 61) hx hb dX12_isSign_1 (by decide) ?_
  refine lv_icmp_eq (tgt := 18) hx hb dX12_isSign_3 (by decide) (fun c1 => ?_) (fun c1 => ?_)
  · rw [if_pos c1] at hR
    refine lv_iconst (v := 1) hx hb dX12_isSign_18 (by decide) ?_
    refine lv_goto (tgt := 23) hx hb dX12_isSign_19 (by decide) ?_
    rw [hQ]
    exact rt_i X hr hlk w hsz rfl rfl rfl (lf1 hR) dX12_isSign_23
  · rw [if_neg c1] at hR
    refine lv_iload_n hx hb dX12_isSign_6 rfl (lv_at hl 0 rfl) ?_
    refine lv_bipush (v := 60) hx hb dX12_isSign_7 (by decide) ?_
    refine lv_icmp_eq (tgt := 18) hx hb dX12_isSign_9 (by decide) (fun c2 => ?_) (fun c2 => ?_)
    · rw [if_pos c2] at hR
      refine lv_iconst (v := 1) hx hb dX12_isSign_18 (by decide) ?_
      refine lv_goto (tgt := 23) hx hb dX12_isSign_19 (by decide) ?_
      rw [hQ]
      exact rt_i X hr hlk w hsz rfl rfl rfl (lf1 hR) dX12_isSign_23
    · rw [if_neg c2] at hR
      refine lv_iload_n hx hb dX12_isSign_12 rfl (lv_at hl 0 rfl) ?_
      refine lv_bipush (v := 62) hx hb dX12_isSign_13 (by decide) ?_
      refine lv_icmp_ne (tgt := 22) hx hb dX12_isSign_15 (by decide) (fun c3 => ?_) (fun c3 => ?_)
      · rw [if_neg c3] at hR
        refine lv_iconst (v := 0) hx hb dX12_isSign_22 (by decide) ?_
        rw [hQ]
        exact rt_i X hr hlk w hsz rfl rfl rfl (lf1 hR) dX12_isSign_23
      · rw [if_pos c3] at hR
        refine lv_iconst (v := 1) hx hb dX12_isSign_18 (by decide) ?_
        refine lv_goto (tgt := 23) hx hb dX12_isSign_19 (by decide) ?_
        rw [hQ]
        exact rt_i X hr hlk w hsz rfl rfl rfl (lf1 hR) dX12_isSign_23
/- LooseEndsModel.compare()V -/
def fX12_compare_j68 (N : Nat) (y0 : Int32) (T : SS) : Option (SS) := bd (fX12_put N T y0 0) fun T2 =>
  some T2
def fX12_compare_j16 (N : Nat) (y0 : Int32) (T : SS) : Option (SS) := bd (fX12_isSign N y0) fun r2 =>
  if r2 = 0 then
  (bd (fX12_bad N T) fun T10 =>
  some T10)
  else
  (lt (pj T 52 3 ((gi T 52 3) + 1)) fun T4 =>
  bd (fX12_sum N 9 T4) fun T6 =>
  if y0 = 61 then
  (fX12_compare_j68 N 6 T6)
  else
  (if y0 = 60 then
  (fX12_compare_j68 N 7 T6)
  else
  (fX12_compare_j68 N 8 T6)))
def fX12_compare (N : Nat) (T : SS) : Option (SS) := if (gi T 52 4) = (-1) then
  (b2 (fX12_look N T) fun T4 r3 =>
  fX12_compare_j16 N r3 T4)
  else
  (fX12_compare_j16 N (-1) T)
set_option maxHeartbeats 4000000 in
set_option maxRecDepth 100000 in
theorem kX12_compare {l : Launch} {D : va_G} {dA : Nat → ClassId} {ad : Nat → Nat} {t1 t2 : Nat} {N : Nat} {S T : SS} {o : Nat → Int64} {T' : SS} (hR : fX12_compare N T = some T') : KV l D dA ad t1 t2 yX12_compare cX12_compare 2 { frames := 46, cells := 0, slots := 0, locals := 948 } [.ref (ad 52)] S T o S T' := by
  intro sz
  refine en_ (plainFor_of_name (by decide)) (Nat.le_of_ble_eq_true rfl) ?_
  intro p ev s m args below meth c QQ hQ hsz X hr hlk w ls hl
  have hx := X.1
  have hb := X.2.1
  have J68 : ∀ (y0 : Int32) (T : SS), fX12_compare_j68 N y0 T = some T' → WAT p l ev ({ frames := 46, cells := 0, slots := 0, locals := 948 } : Room) s m args below meth c QQ 2 D dA ad t1 t2 S T o 68 [] [.int y0, .ref (ad 52)] := by
    intro y0 T hR H locs ls w hl
    unfold fX12_compare_j68 at hR
    refine lv_iconst (v := 0) hx hb dX12_compare_68 (by decide) ?_
    obtain ⟨T2, h1, hR⟩ := bd_e hR
    refine cVv (k := 52) (As := [.int y0, .int 0]) (rest := []) X hl.1 w okX12_put obX12 rfl lmX12_132 (kX12_put h1) ⟨Nat.le_of_ble_eq_true rfl, Nat.le_of_ble_eq_true rfl⟩ ⟨rfl, rfl⟩ ⟨Nat.zero_le _, Nat.zero_le _⟩ rfl rfl (Nat.le_of_ble_eq_true rfl) dX12_compare_69 (fun H locs w => ?_)
    rw [hQ]
    exact rt_v X hr hlk w hsz rfl (lf1 hR) dX12_compare_72
  have J16 : ∀ (y0 : Int32) (T : SS), fX12_compare_j16 N y0 T = some T' → WAT p l ev ({ frames := 46, cells := 0, slots := 0, locals := 948 } : Room) s m args below meth c QQ 2 D dA ad t1 t2 S T o 16 [(0, .ref (ad 52))] [.int y0] := by
    intro y0 T hR H locs ls w hl
    unfold fX12_compare_j16 at hR
    refine lv_istore_n (lv' := [(1, .int y0), (0, .ref (ad 52))]) hx hb dX12_compare_16 rfl hl (by decide) rfl (fun ls hl => ?_)
    refine lv_iload_n hx hb dX12_compare_17 rfl (lv_at hl 0 rfl) ?_
    obtain ⟨r2, h1, hR⟩ := bd_e hR
    refine cSi (As := [.int y0]) (rest := []) X hl.1 w okX12_isSign lmX12_156 (kX12_isSign h1) ⟨Nat.le_of_ble_eq_true rfl, Nat.le_of_ble_eq_true rfl⟩ ⟨rfl, rfl⟩ ⟨Nat.zero_le _, Nat.zero_le _⟩ rfl rfl (Nat.le_of_ble_eq_true rfl) dX12_compare_18 (fun H locs zr2 w => ?_)
    refine lv_if_ne (tgt := 29) hx hb dX12_compare_21 (by decide) (fun c3 => ?_) (fun c3 => ?_)
    · rw [if_neg c3] at hR
      refine lv_aload_n hx hb dX12_compare_29 rfl (lv_at hl 1 rfl) ?_
      refine lv_dup hx hb dX12_compare_30 rfl ?_
      refine gX12_at X w lfX12_103 dX12_compare_31 ?_
      refine lv_iconst (v := 1) hx hb dX12_compare_34 (by decide) ?_
      refine lv_iadd hx hb dX12_compare_35 ?_
      obtain ⟨T4, eT4, hR⟩ := lt_e hR
      refine pX12_at X w lfX12_103 dX12_compare_36 (fun H locs w => ?_)
      rw [← eT4] at w
      refine lv_aload_n hx hb dX12_compare_39 rfl (lv_at hl 1 rfl) ?_
      obtain ⟨T6, h5, hR⟩ := bd_e hR
      refine cVv (k := 52) (As := []) (rest := []) X hl.1 w okX12_sum obX12 rfl lmX12_143 (kX12_sum 9 h5) ⟨Nat.le_of_ble_eq_true rfl, Nat.le_of_ble_eq_true rfl⟩ ⟨rfl, rfl⟩ ⟨Nat.zero_le _, Nat.zero_le _⟩ rfl rfl (Nat.le_of_ble_eq_true rfl) dX12_compare_40 (fun H locs w => ?_)
      refine lv_aload_n hx hb dX12_compare_43 rfl (lv_at hl 1 rfl) ?_
      refine lv_iload_n hx hb dX12_compare_44 rfl (lv_at hl 0 rfl) ?_
      refine lv_bipush (v := 61) hx hb dX12_compare_45 (by decide) ?_
      refine lv_icmp_ne (tgt := 55) hx hb dX12_compare_47 (by decide) (fun c7 => ?_) (fun c7 => ?_)
      · rw [if_neg c7] at hR
        refine lv_iload_n hx hb dX12_compare_55 rfl (lv_at hl 0 rfl) ?_
        refine lv_bipush (v := 60) hx hb dX12_compare_56 (by decide) ?_
        refine lv_icmp_ne (tgt := 66) hx hb dX12_compare_58 (by decide) (fun c8 => ?_) (fun c8 => ?_)
        · rw [if_neg c8] at hR
          refine lv_bipush (v := 8) hx hb dX12_compare_66 (by decide) ?_
          exact J68 8 T6 hR _ _ _ w (lv_sub hl [] rfl)
        · rw [if_pos c8] at hR
          refine lv_bipush (v := 7) hx hb dX12_compare_61 (by decide) ?_
          refine lv_goto (tgt := 68) hx hb dX12_compare_63 (by decide) ?_
          exact J68 7 T6 hR _ _ _ w (lv_sub hl [] rfl)
      · rw [if_pos c7] at hR
        refine lv_bipush (v := 6) hx hb dX12_compare_50 (by decide) ?_
        refine lv_goto (tgt := 68) hx hb dX12_compare_52 (by decide) ?_
        exact J68 6 T6 hR _ _ _ w (lv_sub hl [] rfl)
    · rw [if_pos c3] at hR
      refine lv_aload_n hx hb dX12_compare_24 rfl (lv_at hl 1 rfl) ?_
      obtain ⟨T10, h9, hR⟩ := bd_e hR
      refine cVv (k := 52) (As := []) (rest := []) X hl.1 w okX12_bad obX12 rfl lmX12_119 (kX12_bad h9) ⟨Nat.le_of_ble_eq_true rfl, Nat.le_of_ble_eq_true rfl⟩ ⟨rfl, rfl⟩ ⟨Nat.zero_le _, Nat.zero_le _⟩ rfl rfl (Nat.le_of_ble_eq_true rfl) dX12_compare_25 (fun H locs w => ?_)
      rw [hQ]
      exact rt_v X hr hlk w hsz rfl (lf1 hR) dX12_compare_28
  have hl : lv_has ls 2 [(0, .ref (ad 52))] := hl
  unfold fX12_compare at hR
  refine lv_aload_n hx hb dX12_compare_0 rfl (lv_at hl 0 rfl) ?_
  refine gX12_wrong X w lfX12_110 dX12_compare_1 ?_
  refine lv_iconst (v := -1) hx hb dX12_compare_4 (by decide) ?_
  refine lv_icmp_ne (tgt := 15) hx hb dX12_compare_5 (by decide) (fun c1 => ?_) (fun c1 => ?_)
  · rw [if_neg c1] at hR
    refine lv_iconst (v := -1) hx hb dX12_compare_15 (by decide) ?_
    exact J16 (-1) T hR _ _ _ w (lv_sub hl [0] rfl)
  · rw [if_pos c1] at hR
    refine lv_aload_n hx hb dX12_compare_8 rfl (lv_at hl 0 rfl) ?_
    obtain ⟨T4, r3, h2, hR⟩ := b2_e hR
    refine cVi (k := 52) (As := []) (rest := []) X hl.1 w okX12_look obX12 rfl lmX12_122 (kX12_look h2) ⟨Nat.le_of_ble_eq_true rfl, Nat.le_of_ble_eq_true rfl⟩ ⟨rfl, rfl⟩ ⟨Nat.zero_le _, Nat.zero_le _⟩ rfl rfl (Nat.le_of_ble_eq_true rfl) dX12_compare_9 (fun H locs zr3 w => ?_)
    refine lv_goto (tgt := 16) hx hb dX12_compare_12 (by decide) ?_
    exact J16 r3 T4 hR _ _ _ w (lv_sub hl [0] rfl)
/- LooseEndsModel.goOnAnd()V -/
def fX12_goOnAnd_l0 (N : Nat) (rec : SS → Option (SS)) : Nat → SS → Option (SS)
  | 0, _ => none
  | n + 1, T => if (gi T 52 4) = (-1) then
  (b2 (fX12_look N T) fun T4 r3 =>
  if r3 = 38 then
  (lt (pj T4 52 3 ((gi T4 52 3) + 1)) fun T6 =>
  bd (rec T6) fun T8 =>
  bd (fX12_put N T8 10 0) fun T10 =>
  fX12_goOnAnd_l0 N rec n T10)
  else
  (some T4))
  else
  (some T)
def fX12_goOnAnd (N : Nat) (rec : SS → Option (SS)) (T : SS) : Option (SS) := fX12_goOnAnd_l0 N rec N T
set_option maxHeartbeats 4000000 in
set_option maxRecDepth 100000 in
theorem kX12_goOnAnd {l : Launch} {D : va_G} {dA : Nat → ClassId} {ad : Nat → Nat} {t1 t2 : Nat} {N : Nat} {rec : SS → Option (SS)} {F L : Nat} (hrec : ∀ {S T : SS} {o : Nat → Int64} {T' : SS}, rec T = some T' → KV l D dA ad t1 t2 yX12_unit cX12_unit 2 { frames := F, cells := 0, slots := 0, locals := L } [.ref (ad 52)] S T o S T') {S T : SS} {o : Nat → Int64} {T' : SS} (hR : fX12_goOnAnd N rec T = some T') : KV l D dA ad t1 t2 yX12_goOnAnd cX12_goOnAnd 1 { frames := F + 2, cells := 0, slots := 0, locals := L + 40 } [.ref (ad 52)] S T o S T' := by
  intro sz
  refine en_ (plainFor_of_name (by decide)) (Nat.le_of_ble_eq_true rfl) ?_
  intro p ev s m args below meth c QQ hQ hsz X hr hlk w ls hl
  have hx := X.1
  have hb := X.2.1
  have L0 : ∀ (n : Nat), ∀ (T : SS), fX12_goOnAnd_l0 N rec n T = some T' → WAT p l ev ({ frames := F + 2, cells := 0, slots := 0, locals := L + 40 } : Room) s m args below meth c QQ 1 D dA ad t1 t2 S T o 0 [(0, .ref (ad 52))] [] := by
    intro n
    induction n with
    | zero =>
      intro T hR
      exact nomatch hR
    | succ n ih =>
      intro T hR H locs ls w hl
      rw [fX12_goOnAnd_l0] at hR
      refine lv_aload_n hx hb dX12_goOnAnd_0 rfl (lv_at hl 0 rfl) ?_
      refine gX12_wrong X w lfX12_110 dX12_goOnAnd_1 ?_
      refine lv_iconst (v := -1) hx hb dX12_goOnAnd_4 (by decide) ?_
      refine lv_icmp_ne (tgt := 41) hx hb dX12_goOnAnd_5 (by decide) (fun c1 => ?_) (fun c1 => ?_)
      · rw [if_neg c1] at hR
        rw [hQ]
        exact rt_v X hr hlk w hsz rfl (lf1 hR) dX12_goOnAnd_41
      · rw [if_pos c1] at hR
        refine lv_aload_n hx hb dX12_goOnAnd_8 rfl (lv_at hl 0 rfl) ?_
        obtain ⟨T4, r3, h2, hR⟩ := b2_e hR
        refine cVi (k := 52) (As := []) (rest := []) X hl.1 w okX12_look obX12 rfl lmX12_122 (kX12_look h2) ⟨by show _ ≤ F + 2; dsimp only; omega, by show _ ≤ L + 40; simp only [List.map, Value.category, List.sum_cons, List.sum_nil, Nat.add_assoc]; omega⟩ ⟨rfl, rfl⟩ ⟨Nat.zero_le _, Nat.zero_le _⟩ rfl rfl (Nat.le_of_ble_eq_true rfl) dX12_goOnAnd_9 (fun H locs zr3 w => ?_)
        refine lv_bipush (v := 38) hx hb dX12_goOnAnd_12 (by decide) ?_
        refine lv_icmp_ne (tgt := 41) hx hb dX12_goOnAnd_14 (by decide) (fun c5 => ?_) (fun c5 => ?_)
        · rw [if_neg c5] at hR
          rw [hQ]
          exact rt_v X hr hlk w hsz rfl (lf1 hR) dX12_goOnAnd_41
        · rw [if_pos c5] at hR
          refine lv_aload_n hx hb dX12_goOnAnd_17 rfl (lv_at hl 0 rfl) ?_
          refine lv_dup hx hb dX12_goOnAnd_18 rfl ?_
          refine gX12_at X w lfX12_103 dX12_goOnAnd_19 ?_
          refine lv_iconst (v := 1) hx hb dX12_goOnAnd_22 (by decide) ?_
          refine lv_iadd hx hb dX12_goOnAnd_23 ?_
          obtain ⟨T6, eT6, hR⟩ := lt_e hR
          refine pX12_at X w lfX12_103 dX12_goOnAnd_24 (fun H locs w => ?_)
          rw [← eT6] at w
          refine lv_aload_n hx hb dX12_goOnAnd_27 rfl (lv_at hl 0 rfl) ?_
          obtain ⟨T8, h7, hR⟩ := bd_e hR
          refine cVv (k := 52) (As := []) (rest := []) X hl.1 w okX12_unit obX12 rfl lmX12_159 (hrec h7) ⟨by show _ ≤ F + 2; dsimp only; omega, by show _ ≤ L + 40; simp only [List.map, Value.category, List.sum_cons, List.sum_nil, Nat.add_assoc]; omega⟩ ⟨rfl, rfl⟩ ⟨Nat.zero_le _, Nat.zero_le _⟩ rfl rfl (Nat.le_of_ble_eq_true rfl) dX12_goOnAnd_28 (fun H locs w => ?_)
          refine lv_aload_n hx hb dX12_goOnAnd_31 rfl (lv_at hl 0 rfl) ?_
          refine lv_bipush (v := 10) hx hb dX12_goOnAnd_32 (by decide) ?_
          refine lv_iconst (v := 0) hx hb dX12_goOnAnd_34 (by decide) ?_
          obtain ⟨T10, h9, hR⟩ := bd_e hR
          refine cVv (k := 52) (As := [.int 10, .int 0]) (rest := []) X hl.1 w okX12_put obX12 rfl lmX12_132 (kX12_put h9) ⟨by show _ ≤ F + 2; dsimp only; omega, by show _ ≤ L + 40; simp only [List.map, Value.category, List.sum_cons, List.sum_nil, Nat.add_assoc]; omega⟩ ⟨rfl, rfl⟩ ⟨Nat.zero_le _, Nat.zero_le _⟩ rfl rfl (Nat.le_of_ble_eq_true rfl) dX12_goOnAnd_35 (fun H locs w => ?_)
          refine lv_goto (tgt := 0) hx hb dX12_goOnAnd_38 (by decide) ?_
          exact ih T10 hR _ _ _ w (lv_sub hl [0] rfl)
  have hl : lv_has ls 1 [(0, .ref (ad 52))] := hl
  unfold fX12_goOnAnd at hR
  exact L0 N T hR _ _ _ w (lv_sub hl [0] rfl)
/- LooseEndsModel.goOnOr()V -/
def fX12_goOnOr_l0 (N : Nat) (rec : SS → Option (SS)) : Nat → SS → Option (SS)
  | 0, _ => none
  | n + 1, T => if (gi T 52 4) = (-1) then
  (b2 (fX12_look N T) fun T4 r3 =>
  if r3 = 124 then
  (lt (pj T4 52 3 ((gi T4 52 3) + 1)) fun T6 =>
  bd (rec T6) fun T8 =>
  bd (fX12_goOnAnd N rec T8) fun T10 =>
  bd (fX12_put N T10 11 0) fun T12 =>
  fX12_goOnOr_l0 N rec n T12)
  else
  (some T4))
  else
  (some T)
def fX12_goOnOr (N : Nat) (rec : SS → Option (SS)) (T : SS) : Option (SS) := fX12_goOnOr_l0 N rec N T
set_option maxHeartbeats 4000000 in
set_option maxRecDepth 100000 in
theorem kX12_goOnOr {l : Launch} {D : va_G} {dA : Nat → ClassId} {ad : Nat → Nat} {t1 t2 : Nat} {N : Nat} {rec : SS → Option (SS)} {F L : Nat} (hrec : ∀ {S T : SS} {o : Nat → Int64} {T' : SS}, rec T = some T' → KV l D dA ad t1 t2 yX12_unit cX12_unit 2 { frames := F, cells := 0, slots := 0, locals := L } [.ref (ad 52)] S T o S T') {S T : SS} {o : Nat → Int64} {T' : SS} (hR : fX12_goOnOr N rec T = some T') : KV l D dA ad t1 t2 yX12_goOnOr cX12_goOnOr 1 { frames := F + 3, cells := 0, slots := 0, locals := L + 60 } [.ref (ad 52)] S T o S T' := by
  intro sz
  refine en_ (plainFor_of_name (by decide)) (Nat.le_of_ble_eq_true rfl) ?_
  intro p ev s m args below meth c QQ hQ hsz X hr hlk w ls hl
  have hx := X.1
  have hb := X.2.1
  have L0 : ∀ (n : Nat), ∀ (T : SS), fX12_goOnOr_l0 N rec n T = some T' → WAT p l ev ({ frames := F + 3, cells := 0, slots := 0, locals := L + 60 } : Room) s m args below meth c QQ 1 D dA ad t1 t2 S T o 0 [(0, .ref (ad 52))] [] := by
    intro n
    induction n with
    | zero =>
      intro T hR
      exact nomatch hR
    | succ n ih =>
      intro T hR H locs ls w hl
      rw [fX12_goOnOr_l0] at hR
      refine lv_aload_n hx hb dX12_goOnOr_0 rfl (lv_at hl 0 rfl) ?_
      refine gX12_wrong X w lfX12_110 dX12_goOnOr_1 ?_
      refine lv_iconst (v := -1) hx hb dX12_goOnOr_4 (by decide) ?_
      refine lv_icmp_ne (tgt := 45) hx hb dX12_goOnOr_5 (by decide) (fun c1 => ?_) (fun c1 => ?_)
      · rw [if_neg c1] at hR
        rw [hQ]
        exact rt_v X hr hlk w hsz rfl (lf1 hR) dX12_goOnOr_45
      · rw [if_pos c1] at hR
        refine lv_aload_n hx hb dX12_goOnOr_8 rfl (lv_at hl 0 rfl) ?_
        obtain ⟨T4, r3, h2, hR⟩ := b2_e hR
        refine cVi (k := 52) (As := []) (rest := []) X hl.1 w okX12_look obX12 rfl lmX12_122 (kX12_look h2) ⟨by show _ ≤ F + 3; dsimp only; omega, by show _ ≤ L + 60; simp only [List.map, Value.category, List.sum_cons, List.sum_nil, Nat.add_assoc]; omega⟩ ⟨rfl, rfl⟩ ⟨Nat.zero_le _, Nat.zero_le _⟩ rfl rfl (Nat.le_of_ble_eq_true rfl) dX12_goOnOr_9 (fun H locs zr3 w => ?_)
        refine lv_bipush (v := 124) hx hb dX12_goOnOr_12 (by decide) ?_
        refine lv_icmp_ne (tgt := 45) hx hb dX12_goOnOr_14 (by decide) (fun c5 => ?_) (fun c5 => ?_)
        · rw [if_neg c5] at hR
          rw [hQ]
          exact rt_v X hr hlk w hsz rfl (lf1 hR) dX12_goOnOr_45
        · rw [if_pos c5] at hR
          refine lv_aload_n hx hb dX12_goOnOr_17 rfl (lv_at hl 0 rfl) ?_
          refine lv_dup hx hb dX12_goOnOr_18 rfl ?_
          refine gX12_at X w lfX12_103 dX12_goOnOr_19 ?_
          refine lv_iconst (v := 1) hx hb dX12_goOnOr_22 (by decide) ?_
          refine lv_iadd hx hb dX12_goOnOr_23 ?_
          obtain ⟨T6, eT6, hR⟩ := lt_e hR
          refine pX12_at X w lfX12_103 dX12_goOnOr_24 (fun H locs w => ?_)
          rw [← eT6] at w
          refine lv_aload_n hx hb dX12_goOnOr_27 rfl (lv_at hl 0 rfl) ?_
          obtain ⟨T8, h7, hR⟩ := bd_e hR
          refine cVv (k := 52) (As := []) (rest := []) X hl.1 w okX12_unit obX12 rfl lmX12_159 (hrec h7) ⟨by show _ ≤ F + 3; dsimp only; omega, by show _ ≤ L + 60; simp only [List.map, Value.category, List.sum_cons, List.sum_nil, Nat.add_assoc]; omega⟩ ⟨rfl, rfl⟩ ⟨Nat.zero_le _, Nat.zero_le _⟩ rfl rfl (Nat.le_of_ble_eq_true rfl) dX12_goOnOr_28 (fun H locs w => ?_)
          refine lv_aload_n hx hb dX12_goOnOr_31 rfl (lv_at hl 0 rfl) ?_
          obtain ⟨T10, h9, hR⟩ := bd_e hR
          refine cVv (k := 52) (As := []) (rest := []) X hl.1 w okX12_goOnAnd obX12 rfl lmX12_168 (kX12_goOnAnd hrec h9) ⟨by show _ ≤ F + 3; dsimp only; omega, by show _ ≤ L + 60; simp only [List.map, Value.category, List.sum_cons, List.sum_nil, Nat.add_assoc]; omega⟩ ⟨rfl, rfl⟩ ⟨Nat.zero_le _, Nat.zero_le _⟩ rfl rfl (Nat.le_of_ble_eq_true rfl) dX12_goOnOr_32 (fun H locs w => ?_)
          refine lv_aload_n hx hb dX12_goOnOr_35 rfl (lv_at hl 0 rfl) ?_
          refine lv_bipush (v := 11) hx hb dX12_goOnOr_36 (by decide) ?_
          refine lv_iconst (v := 0) hx hb dX12_goOnOr_38 (by decide) ?_
          obtain ⟨T12, h11, hR⟩ := bd_e hR
          refine cVv (k := 52) (As := [.int 11, .int 0]) (rest := []) X hl.1 w okX12_put obX12 rfl lmX12_132 (kX12_put h11) ⟨by show _ ≤ F + 3; dsimp only; omega, by show _ ≤ L + 60; simp only [List.map, Value.category, List.sum_cons, List.sum_nil, Nat.add_assoc]; omega⟩ ⟨rfl, rfl⟩ ⟨Nat.zero_le _, Nat.zero_le _⟩ rfl rfl (Nat.le_of_ble_eq_true rfl) dX12_goOnOr_39 (fun H locs w => ?_)
          refine lv_goto (tgt := 0) hx hb dX12_goOnOr_42 (by decide) ?_
          exact ih T12 hR _ _ _ w (lv_sub hl [0] rfl)
  have hl : lv_has ls 1 [(0, .ref (ad 52))] := hl
  unfold fX12_goOnOr at hR
  exact L0 N T hR _ _ _ w (lv_sub hl [0] rfl)
/- LooseEndsModel.condition()V -/
def fX12_condition (N : Nat) (rec : SS → Option (SS)) (T : SS) : Option (SS) := bd (rec T) fun T2 =>
  bd (fX12_goOnAnd N rec T2) fun T4 =>
  bd (fX12_goOnOr N rec T4) fun T6 =>
  some T6
set_option maxHeartbeats 4000000 in
set_option maxRecDepth 100000 in
theorem kX12_condition {l : Launch} {D : va_G} {dA : Nat → ClassId} {ad : Nat → Nat} {t1 t2 : Nat} {N : Nat} {rec : SS → Option (SS)} {F L : Nat} (hrec : ∀ {S T : SS} {o : Nat → Int64} {T' : SS}, rec T = some T' → KV l D dA ad t1 t2 yX12_unit cX12_unit 2 { frames := F, cells := 0, slots := 0, locals := L } [.ref (ad 52)] S T o S T') {S T : SS} {o : Nat → Int64} {T' : SS} (hR : fX12_condition N rec T = some T') : KV l D dA ad t1 t2 yX12_condition cX12_condition 1 { frames := F + 4, cells := 0, slots := 0, locals := L + 80 } [.ref (ad 52)] S T o S T' := by
  intro sz
  refine en_ (plainFor_of_name (by decide)) (Nat.le_of_ble_eq_true rfl) ?_
  intro p ev s m args below meth c QQ hQ hsz X hr hlk w ls hl
  have hx := X.1
  have hb := X.2.1
  have hl : lv_has ls 1 [(0, .ref (ad 52))] := hl
  unfold fX12_condition at hR
  refine lv_aload_n hx hb dX12_condition_0 rfl (lv_at hl 0 rfl) ?_
  obtain ⟨T2, h1, hR⟩ := bd_e hR
  refine cVv (k := 52) (As := []) (rest := []) X hl.1 w okX12_unit obX12 rfl lmX12_159 (hrec h1) ⟨by show _ ≤ F + 4; dsimp only; omega, by show _ ≤ L + 80; simp only [List.map, Value.category, List.sum_cons, List.sum_nil, Nat.add_assoc]; omega⟩ ⟨rfl, rfl⟩ ⟨Nat.zero_le _, Nat.zero_le _⟩ rfl rfl (Nat.le_of_ble_eq_true rfl) dX12_condition_1 (fun H locs w => ?_)
  refine lv_aload_n hx hb dX12_condition_4 rfl (lv_at hl 0 rfl) ?_
  obtain ⟨T4, h3, hR⟩ := bd_e hR
  refine cVv (k := 52) (As := []) (rest := []) X hl.1 w okX12_goOnAnd obX12 rfl lmX12_168 (kX12_goOnAnd hrec h3) ⟨by show _ ≤ F + 4; dsimp only; omega, by show _ ≤ L + 80; simp only [List.map, Value.category, List.sum_cons, List.sum_nil, Nat.add_assoc]; omega⟩ ⟨rfl, rfl⟩ ⟨Nat.zero_le _, Nat.zero_le _⟩ rfl rfl (Nat.le_of_ble_eq_true rfl) dX12_condition_5 (fun H locs w => ?_)
  refine lv_aload_n hx hb dX12_condition_8 rfl (lv_at hl 0 rfl) ?_
  obtain ⟨T6, h5, hR⟩ := bd_e hR
  refine cVv (k := 52) (As := []) (rest := []) X hl.1 w okX12_goOnOr obX12 rfl lmX12_171 (kX12_goOnOr hrec h5) ⟨by show _ ≤ F + 4; dsimp only; omega, by show _ ≤ L + 80; simp only [List.map, Value.category, List.sum_cons, List.sum_nil, Nat.add_assoc]; omega⟩ ⟨rfl, rfl⟩ ⟨Nat.zero_le _, Nat.zero_le _⟩ rfl rfl (Nat.le_of_ble_eq_true rfl) dX12_condition_9 (fun H locs w => ?_)
  rw [hQ]
  exact rt_v X hr hlk w hsz rfl (lf1 hR) dX12_condition_12
/- LooseEndsModel.unit()V -/
def fX12_unit_b (N : Nat) (rec : SS → Option (SS)) (T : SS) : Option (SS) := b2 (fX12_look N T) fun T3 r2 =>
  if r2 = 33 then
  (bd (fX12_opens N T3) fun T19 =>
  if (gi T19 52 4) = (-1) then
  (bd (rec T19) fun T22 =>
  bd (fX12_put N T22 9 0) fun T24 =>
  lt (pj T24 52 5 ((gi T24 52 5) - 1)) fun T25 =>
  some T25)
  else
  (some T19))
  else
  (if r2 = 40 then
  (bd (fX12_opens N T3) fun T12 =>
  if (gi T12 52 4) = (-1) then
  (bd (fX12_condition N rec T12) fun T15 =>
  bd (fX12_closes N T15 41) fun T17 =>
  some T17)
  else
  (some T12))
  else
  (bd (fX12_sum N 9 T3) fun T7 =>
  if (gi T7 52 4) = (-1) then
  (bd (fX12_compare N T7) fun T10 =>
  some T10)
  else
  (some T7)))
def fX12_unit (N : Nat) : Nat → SS → Option (SS)
  | 0, _ => none
  | d + 1, T => fX12_unit_b N (fX12_unit N d) T
set_option maxHeartbeats 4000000 in
set_option maxRecDepth 100000 in
theorem kX12_unit_b {l : Launch} {D : va_G} {dA : Nat → ClassId} {ad : Nat → Nat} {t1 t2 : Nat} {N : Nat} {rec : SS → Option (SS)} {F L : Nat} (hrec : ∀ {S T : SS} {o : Nat → Int64} {T' : SS}, rec T = some T' → KV l D dA ad t1 t2 yX12_unit cX12_unit 2 { frames := F, cells := 0, slots := 0, locals := L } [.ref (ad 52)] S T o S T') {S T : SS} {o : Nat → Int64} {T' : SS} (hR : fX12_unit_b N rec T = some T') : KV l D dA ad t1 t2 yX12_unit cX12_unit 2 { frames := F + 47, cells := 0, slots := 0, locals := L + 969 } [.ref (ad 52)] S T o S T' := by
  intro sz
  refine en_ (plainFor_of_name (by decide)) (Nat.le_of_ble_eq_true rfl) ?_
  intro p ev s m args below meth c QQ hQ hsz X hr hlk w ls hl
  have hx := X.1
  have hb := X.2.1
  have hl : lv_has ls 2 [(0, .ref (ad 52))] := hl
  unfold fX12_unit_b at hR
  refine lv_aload_n hx hb dX12_unit_0 rfl (lv_at hl 0 rfl) ?_
  obtain ⟨T3, r2, h1, hR⟩ := b2_e hR
  refine cVi (k := 52) (As := []) (rest := []) X hl.1 w okX12_look obX12 rfl lmX12_122 (kX12_look h1) ⟨by show _ ≤ F + 47; dsimp only; omega, by show _ ≤ L + 969; simp only [List.map, Value.category, List.sum_cons, List.sum_nil, Nat.add_assoc]; omega⟩ ⟨rfl, rfl⟩ ⟨Nat.zero_le _, Nat.zero_le _⟩ rfl rfl (Nat.le_of_ble_eq_true rfl) dX12_unit_1 (fun H locs zr2 w => ?_)
  refine lv_istore_n (lv' := [(1, .int r2), (0, .ref (ad 52))]) hx hb dX12_unit_4 rfl hl (by decide) rfl (fun ls hl => ?_)
  refine lv_iload_n hx hb dX12_unit_5 rfl (lv_at hl 0 rfl) ?_
  refine lv_bipush (v := 33) hx hb dX12_unit_6 (by decide) ?_
  refine lv_icmp_ne (tgt := 47) hx hb dX12_unit_8 (by decide) (fun c4 => ?_) (fun c4 => ?_)
  · rw [if_neg c4] at hR
    refine lv_iload_n hx hb dX12_unit_47 rfl (lv_at hl 0 rfl) ?_
    refine lv_bipush (v := 40) hx hb dX12_unit_48 (by decide) ?_
    refine lv_icmp_ne (tgt := 78) hx hb dX12_unit_50 (by decide) (fun c5 => ?_) (fun c5 => ?_)
    · rw [if_neg c5] at hR
      refine lv_aload_n hx hb dX12_unit_78 rfl (lv_at hl 1 rfl) ?_
      obtain ⟨T7, h6, hR⟩ := bd_e hR
      refine cVv (k := 52) (As := []) (rest := []) X hl.1 w okX12_sum obX12 rfl lmX12_143 (kX12_sum 9 h6) ⟨by show _ ≤ F + 47; dsimp only; omega, by show _ ≤ L + 969; simp only [List.map, Value.category, List.sum_cons, List.sum_nil, Nat.add_assoc]; omega⟩ ⟨rfl, rfl⟩ ⟨Nat.zero_le _, Nat.zero_le _⟩ rfl rfl (Nat.le_of_ble_eq_true rfl) dX12_unit_79 (fun H locs w => ?_)
      refine lv_aload_n hx hb dX12_unit_82 rfl (lv_at hl 1 rfl) ?_
      refine gX12_wrong X w lfX12_110 dX12_unit_83 ?_
      refine lv_iconst (v := -1) hx hb dX12_unit_86 (by decide) ?_
      refine lv_icmp_ne (tgt := 94) hx hb dX12_unit_87 (by decide) (fun c8 => ?_) (fun c8 => ?_)
      · rw [if_neg c8] at hR
        rw [hQ]
        exact rt_v X hr hlk w hsz rfl (lf1 hR) dX12_unit_94
      · rw [if_pos c8] at hR
        refine lv_aload_n hx hb dX12_unit_90 rfl (lv_at hl 1 rfl) ?_
        obtain ⟨T10, h9, hR⟩ := bd_e hR
        refine cVv (k := 52) (As := []) (rest := []) X hl.1 w okX12_compare obX12 rfl lmX12_165 (kX12_compare h9) ⟨by show _ ≤ F + 47; dsimp only; omega, by show _ ≤ L + 969; simp only [List.map, Value.category, List.sum_cons, List.sum_nil, Nat.add_assoc]; omega⟩ ⟨rfl, rfl⟩ ⟨Nat.zero_le _, Nat.zero_le _⟩ rfl rfl (Nat.le_of_ble_eq_true rfl) dX12_unit_91 (fun H locs w => ?_)
        rw [hQ]
        exact rt_v X hr hlk w hsz rfl (lf1 hR) dX12_unit_94
    · rw [if_pos c5] at hR
      refine lv_aload_n hx hb dX12_unit_53 rfl (lv_at hl 1 rfl) ?_
      obtain ⟨T12, h11, hR⟩ := bd_e hR
      refine cVv (k := 52) (As := []) (rest := []) X hl.1 w okX12_opens obX12 rfl lmX12_140 (kX12_opens h11) ⟨by show _ ≤ F + 47; dsimp only; omega, by show _ ≤ L + 969; simp only [List.map, Value.category, List.sum_cons, List.sum_nil, Nat.add_assoc]; omega⟩ ⟨rfl, rfl⟩ ⟨Nat.zero_le _, Nat.zero_le _⟩ rfl rfl (Nat.le_of_ble_eq_true rfl) dX12_unit_54 (fun H locs w => ?_)
      refine lv_aload_n hx hb dX12_unit_57 rfl (lv_at hl 1 rfl) ?_
      refine gX12_wrong X w lfX12_110 dX12_unit_58 ?_
      refine lv_iconst (v := -1) hx hb dX12_unit_61 (by decide) ?_
      refine lv_icmp_ne (tgt := 94) hx hb dX12_unit_62 (by decide) (fun c13 => ?_) (fun c13 => ?_)
      · rw [if_neg c13] at hR
        rw [hQ]
        exact rt_v X hr hlk w hsz rfl (lf1 hR) dX12_unit_94
      · rw [if_pos c13] at hR
        refine lv_aload_n hx hb dX12_unit_65 rfl (lv_at hl 1 rfl) ?_
        obtain ⟨T15, h14, hR⟩ := bd_e hR
        refine cVv (k := 52) (As := []) (rest := []) X hl.1 w okX12_condition obX12 rfl lmX12_162 (kX12_condition hrec h14) ⟨by show _ ≤ F + 47; dsimp only; omega, by show _ ≤ L + 969; simp only [List.map, Value.category, List.sum_cons, List.sum_nil, Nat.add_assoc]; omega⟩ ⟨rfl, rfl⟩ ⟨Nat.zero_le _, Nat.zero_le _⟩ rfl rfl (Nat.le_of_ble_eq_true rfl) dX12_unit_66 (fun H locs w => ?_)
        refine lv_aload_n hx hb dX12_unit_69 rfl (lv_at hl 1 rfl) ?_
        refine lv_bipush (v := 41) hx hb dX12_unit_70 (by decide) ?_
        obtain ⟨T17, h16, hR⟩ := bd_e hR
        refine cVv (k := 52) (As := [.int 41]) (rest := []) X hl.1 w okX12_closes obX12 rfl lmX12_146 (kX12_closes h16) ⟨by show _ ≤ F + 47; dsimp only; omega, by show _ ≤ L + 969; simp only [List.map, Value.category, List.sum_cons, List.sum_nil, Nat.add_assoc]; omega⟩ ⟨rfl, rfl⟩ ⟨Nat.zero_le _, Nat.zero_le _⟩ rfl rfl (Nat.le_of_ble_eq_true rfl) dX12_unit_72 (fun H locs w => ?_)
        refine lv_goto (tgt := 94) hx hb dX12_unit_75 (by decide) ?_
        rw [hQ]
        exact rt_v X hr hlk w hsz rfl (lf1 hR) dX12_unit_94
  · rw [if_pos c4] at hR
    refine lv_aload_n hx hb dX12_unit_11 rfl (lv_at hl 1 rfl) ?_
    obtain ⟨T19, h18, hR⟩ := bd_e hR
    refine cVv (k := 52) (As := []) (rest := []) X hl.1 w okX12_opens obX12 rfl lmX12_140 (kX12_opens h18) ⟨by show _ ≤ F + 47; dsimp only; omega, by show _ ≤ L + 969; simp only [List.map, Value.category, List.sum_cons, List.sum_nil, Nat.add_assoc]; omega⟩ ⟨rfl, rfl⟩ ⟨Nat.zero_le _, Nat.zero_le _⟩ rfl rfl (Nat.le_of_ble_eq_true rfl) dX12_unit_12 (fun H locs w => ?_)
    refine lv_aload_n hx hb dX12_unit_15 rfl (lv_at hl 1 rfl) ?_
    refine gX12_wrong X w lfX12_110 dX12_unit_16 ?_
    refine lv_iconst (v := -1) hx hb dX12_unit_19 (by decide) ?_
    refine lv_icmp_ne (tgt := 94) hx hb dX12_unit_20 (by decide) (fun c20 => ?_) (fun c20 => ?_)
    · rw [if_neg c20] at hR
      rw [hQ]
      exact rt_v X hr hlk w hsz rfl (lf1 hR) dX12_unit_94
    · rw [if_pos c20] at hR
      refine lv_aload_n hx hb dX12_unit_23 rfl (lv_at hl 1 rfl) ?_
      obtain ⟨T22, h21, hR⟩ := bd_e hR
      refine cVv (k := 52) (As := []) (rest := []) X hl.1 w okX12_unit obX12 rfl lmX12_159 (hrec h21) ⟨by show _ ≤ F + 47; dsimp only; omega, by show _ ≤ L + 969; simp only [List.map, Value.category, List.sum_cons, List.sum_nil, Nat.add_assoc]; omega⟩ ⟨rfl, rfl⟩ ⟨Nat.zero_le _, Nat.zero_le _⟩ rfl rfl (Nat.le_of_ble_eq_true rfl) dX12_unit_24 (fun H locs w => ?_)
      refine lv_aload_n hx hb dX12_unit_27 rfl (lv_at hl 1 rfl) ?_
      refine lv_bipush (v := 9) hx hb dX12_unit_28 (by decide) ?_
      refine lv_iconst (v := 0) hx hb dX12_unit_30 (by decide) ?_
      obtain ⟨T24, h23, hR⟩ := bd_e hR
      refine cVv (k := 52) (As := [.int 9, .int 0]) (rest := []) X hl.1 w okX12_put obX12 rfl lmX12_132 (kX12_put h23) ⟨by show _ ≤ F + 47; dsimp only; omega, by show _ ≤ L + 969; simp only [List.map, Value.category, List.sum_cons, List.sum_nil, Nat.add_assoc]; omega⟩ ⟨rfl, rfl⟩ ⟨Nat.zero_le _, Nat.zero_le _⟩ rfl rfl (Nat.le_of_ble_eq_true rfl) dX12_unit_31 (fun H locs w => ?_)
      refine lv_aload_n hx hb dX12_unit_34 rfl (lv_at hl 1 rfl) ?_
      refine lv_dup hx hb dX12_unit_35 rfl ?_
      refine gX12_deep X w lfX12_116 dX12_unit_36 ?_
      refine lv_iconst (v := 1) hx hb dX12_unit_39 (by decide) ?_
      refine lv_isub hx hb dX12_unit_40 ?_
      obtain ⟨T25, eT25, hR⟩ := lt_e hR
      refine pX12_deep X w lfX12_116 dX12_unit_41 (fun H locs w => ?_)
      rw [← eT25] at w
      refine lv_goto (tgt := 94) hx hb dX12_unit_44 (by decide) ?_
      rw [hQ]
      exact rt_v X hr hlk w hsz rfl (lf1 hR) dX12_unit_94
theorem kX12_unit {l : Launch} {D : va_G} {dA : Nat → ClassId} {ad : Nat → Nat} {t1 t2 : Nat} {N : Nat} (d : Nat) : ∀ {S T : SS} {o : Nat → Int64} {T' : SS}, fX12_unit N d T = some T' → KV l D dA ad t1 t2 yX12_unit cX12_unit 2 { frames := 47 * d, cells := 0, slots := 0, locals := 969 * d } [.ref (ad 52)] S T o S T' := by
  induction d with
  | zero =>
    intro S T o T' hR
    exact nomatch hR
  | succ d ih =>
    intro S T o T' hR
    exact kX12_unit_b ih hR
/- LooseEndsModel.clause()V -/
def fX12_clause_j251 (N : Nat) (x1 : Int32) (T : SS) : Option (SS) := ck (inb (gi T 52 14) 5) <|
  ck (inb x1 700) <|
  lt (pa T 60 x1 (ga T 56 (gi T 52 14))) fun T3 =>
  ck (inb (gi T3 52 14) 5) <|
  ck (inb (gi T3 52 14) 5) <|
  lt (pa T3 57 (gi T3 52 14) ((ga T3 57 (gi T3 52 14)) + 1)) fun T6 =>
  some T6
def fX12_clause_j184 (N : Nat) (x1 : Int32) (x2 : Int32) (T : SS) : Option (SS) := ck (inb x1 700) <|
  ck (inb x1 700) <|
  lt (pa T 59 x1 (ga T 58 x1)) fun T3 =>
  if x2 = 0 then
  (fX12_clause_j251 N x1 T3)
  else
  (if (gi T3 52 4) = (-1) then
  (b2 (fX12_look N T3) fun T8 r7 =>
  if r7 = 63 then
  (lt (pj T8 52 3 ((gi T8 52 3) + 1)) fun T10 =>
  ck (inb (gi T10 52 14) 5) <|
  ck (inb x1 700) <|
  lt (pa T10 59 x1 (ga T10 56 (gi T10 52 14))) fun T13 =>
  bd (fX12_sum N 9 T13) fun T15 =>
  fX12_clause_j251 N x1 T15)
  else
  (bd (fX12_bad N T8) fun T17 =>
  some T17))
  else
  (fX12_clause_j251 N x1 T3))
def fX12_clause_j167 (N : Nat) (x1 : Int32) (y0 : Int32) (T : SS) : Option (SS) := if y0 = 0 then
  (fX12_clause_j184 N x1 y0 T)
  else
  (bd (fX12_compare N T) fun T3 =>
  bd (fX12_goOnAnd N (fX12_unit N 9) T3) fun T5 =>
  bd (fX12_goOnOr N (fX12_unit N 9) T5) fun T7 =>
  fX12_clause_j184 N x1 y0 T7)
def fX12_clause_j166 (N : Nat) (x1 : Int32) (T : SS) : Option (SS) := fX12_clause_j167 N x1 0 T
def fX12_clause_j128 (N : Nat) (x1 : Int32) (y0 : Int32) (T : SS) : Option (SS) := if y0 = 0 then
  (bd (fX12_sum N 9 T) fun T3 =>
  if (gi T3 52 4) = (-1) then
  (b2 (fX12_look N T3) fun T7 r6 =>
  bd (fX12_isSign N r6) fun r9 =>
  if r9 = 0 then
  (fX12_clause_j166 N x1 T7)
  else
  (fX12_clause_j167 N x1 1 T7))
  else
  (fX12_clause_j166 N x1 T3))
  else
  (bd (fX12_condition N (fX12_unit N 9) T) fun T12 =>
  fX12_clause_j184 N x1 y0 T12)
def fX12_clause_j123 (N : Nat) (x1 : Int32) (T : SS) : Option (SS) := fX12_clause_j128 N x1 1 T
def fX12_clause_j71 (N : Nat) (x1 : Int32) (T : SS) : Option (SS) := lt (pj T 52 3 ((gi T 52 3) + 1)) fun T1 =>
  if (gi T1 52 4) = (-1) then
  (ck (inb (gi T1 52 14) 5) <|
  ck (inb x1 700) <|
  lt (pa T1 58 x1 (ga T1 56 (gi T1 52 14))) fun T5 =>
  b2 (fX12_look N T5) fun T8 r7 =>
  if r7 = 33 then
  (fX12_clause_j123 N x1 T8)
  else
  (b2 (fX12_look N T8) fun T12 r11 =>
  if r11 = 40 then
  (fX12_clause_j123 N x1 T12)
  else
  (fX12_clause_j128 N x1 0 T12)))
  else
  (some T1)
def fX12_clause_j40 (N : Nat) (x1 : Int32) (T : SS) : Option (SS) := lt (pj T 52 3 ((gi T 52 3) + 1)) fun T1 =>
  if (gi T1 52 4) = (-1) then
  (b2 (fX12_look N T1) fun T5 r4 =>
  if r4 = 58 then
  (fX12_clause_j71 N x1 T5)
  else
  (bd (fX12_bad N T5) fun T8 =>
  fX12_clause_j71 N x1 T8))
  else
  (fX12_clause_j71 N x1 T1)
def fX12_clause (N : Nat) (T : SS) : Option (SS) := ck (inb (gi T 52 14) 5) <|
  lt ((140 * (gi T 52 14)) + (ga T 57 (gi T 52 14))) fun v2 =>
  if (gi T 52 4) = (-1) then
  (b2 (fX12_look N T) fun T6 r5 =>
  if r5 = 121 then
  (fX12_clause_j40 N v2 T6)
  else
  (bd (fX12_bad N T6) fun T9 =>
  fX12_clause_j40 N v2 T9))
  else
  (fX12_clause_j40 N v2 T)
set_option maxHeartbeats 4000000 in
set_option maxRecDepth 100000 in
theorem kX12_clause {l : Launch} {D : va_G} {dA : Nat → ClassId} {ad : Nat → Nat} {t1 t2 : Nat} {N : Nat} {S T : SS} {o : Nat → Int64} {T' : SS} (hR : fX12_clause N T = some T') : KV l D dA ad t1 t2 yX12_clause cX12_clause 3 { frames := 428, cells := 0, slots := 0, locals := 8821 } [.ref (ad 52)] S T o S T' := by
  intro sz
  refine en_ (plainFor_of_name (by decide)) (Nat.le_of_ble_eq_true rfl) ?_
  intro p ev s m args below meth c QQ hQ hsz X hr hlk w ls hl
  have hx := X.1
  have hb := X.2.1
  have J251 : ∀ (x1 : Int32) (T : SS), fX12_clause_j251 N x1 T = some T' → WAT p l ev ({ frames := 428, cells := 0, slots := 0, locals := 8821 } : Room) s m args below meth c QQ 3 D dA ad t1 t2 S T o 251 [(0, .ref (ad 52)), (1, .int x1)] [] := by
    intro x1 T hR H locs ls w hl
    unfold fX12_clause_j251 at hR
    refine lv_aload_n hx hb dX12_clause_251 rfl (lv_at hl 0 rfl) ?_
    refine gX12_sumTo X w lfX12_31 dX12_clause_252 ?_
    refine lv_iload_n hx hb dX12_clause_255 rfl (lv_at hl 1 rfl) ?_
    refine lv_aload_n hx hb dX12_clause_256 rfl (lv_at hl 0 rfl) ?_
    refine gX12_codes X w lfX12_19 dX12_clause_257 ?_
    refine lv_aload_n hx hb dX12_clause_260 rfl (lv_at hl 0 rfl) ?_
    refine gX12_text X w lfX12_113 dX12_clause_261 ?_
    obtain ⟨g1, hR⟩ := ck_e hR
    refine ialT (n := 5) rfl (by decide) X w rfl g1 dX12_clause_264 ?_
    obtain ⟨g2, hR⟩ := ck_e hR
    obtain ⟨T3, eT3, hR⟩ := lt_e hR
    refine iasT (n := 700) rfl (by decide) X w rfl g2 dX12_clause_265 (fun H locs w => ?_)
    rw [← eT3] at w
    refine lv_aload_n hx hb dX12_clause_266 rfl (lv_at hl 0 rfl) ?_
    refine gX12_clauses X w lfX12_22 dX12_clause_267 ?_
    refine lv_aload_n hx hb dX12_clause_270 rfl (lv_at hl 0 rfl) ?_
    refine gX12_text X w lfX12_113 dX12_clause_271 ?_
    refine lv_dup2_11 hx hb dX12_clause_274 rfl rfl ?_
    obtain ⟨g4, hR⟩ := ck_e hR
    refine ialT (n := 5) rfl (by decide) X w rfl g4 dX12_clause_275 ?_
    refine lv_iconst (v := 1) hx hb dX12_clause_276 (by decide) ?_
    refine lv_iadd hx hb dX12_clause_277 ?_
    obtain ⟨g5, hR⟩ := ck_e hR
    obtain ⟨T6, eT6, hR⟩ := lt_e hR
    refine iasT (n := 5) rfl (by decide) X w rfl g5 dX12_clause_278 (fun H locs w => ?_)
    rw [← eT6] at w
    rw [hQ]
    exact rt_v X hr hlk w hsz rfl (lf1 hR) dX12_clause_279
  have J184 : ∀ (x1 : Int32) (x2 : Int32) (T : SS), fX12_clause_j184 N x1 x2 T = some T' → WAT p l ev ({ frames := 428, cells := 0, slots := 0, locals := 8821 } : Room) s m args below meth c QQ 3 D dA ad t1 t2 S T o 184 [(0, .ref (ad 52)), (1, .int x1), (2, .int x2)] [] := by
    intro x1 x2 T hR H locs ls w hl
    unfold fX12_clause_j184 at hR
    refine lv_aload_n hx hb dX12_clause_184 rfl (lv_at hl 0 rfl) ?_
    refine gX12_sumFrom X w lfX12_28 dX12_clause_185 ?_
    refine lv_iload_n hx hb dX12_clause_188 rfl (lv_at hl 1 rfl) ?_
    refine lv_aload_n hx hb dX12_clause_189 rfl (lv_at hl 0 rfl) ?_
    refine gX12_testFrom X w lfX12_25 dX12_clause_190 ?_
    refine lv_iload_n hx hb dX12_clause_193 rfl (lv_at hl 1 rfl) ?_
    obtain ⟨g1, hR⟩ := ck_e hR
    refine ialT (n := 700) rfl (by decide) X w rfl g1 dX12_clause_194 ?_
    obtain ⟨g2, hR⟩ := ck_e hR
    obtain ⟨T3, eT3, hR⟩ := lt_e hR
    refine iasT (n := 700) rfl (by decide) X w rfl g2 dX12_clause_195 (fun H locs w => ?_)
    rw [← eT3] at w
    refine lv_iload_n hx hb dX12_clause_196 rfl (lv_at hl 2 rfl) ?_
    refine lv_if_eq (tgt := 251) hx hb dX12_clause_197 (by decide) (fun c4 => ?_) (fun c4 => ?_)
    · rw [if_pos c4] at hR
      exact J251 x1 T3 hR _ _ _ w (lv_sub hl [0, 1] rfl)
    · rw [if_neg c4] at hR
      refine lv_aload_n hx hb dX12_clause_200 rfl (lv_at hl 0 rfl) ?_
      refine gX12_wrong X w lfX12_110 dX12_clause_201 ?_
      refine lv_iconst (v := -1) hx hb dX12_clause_204 (by decide) ?_
      refine lv_icmp_ne (tgt := 251) hx hb dX12_clause_205 (by decide) (fun c5 => ?_) (fun c5 => ?_)
      · rw [if_neg c5] at hR
        exact J251 x1 T3 hR _ _ _ w (lv_sub hl [0, 1] rfl)
      · rw [if_pos c5] at hR
        refine lv_aload_n hx hb dX12_clause_208 rfl (lv_at hl 0 rfl) ?_
        obtain ⟨T8, r7, h6, hR⟩ := b2_e hR
        refine cVi (k := 52) (As := []) (rest := []) X hl.1 w okX12_look obX12 rfl lmX12_122 (kX12_look h6) ⟨Nat.le_of_ble_eq_true rfl, Nat.le_of_ble_eq_true rfl⟩ ⟨rfl, rfl⟩ ⟨Nat.zero_le _, Nat.zero_le _⟩ rfl rfl (Nat.le_of_ble_eq_true rfl) dX12_clause_209 (fun H locs zr7 w => ?_)
        refine lv_bipush (v := 63) hx hb dX12_clause_212 (by decide) ?_
        refine lv_icmp_eq (tgt := 222) hx hb dX12_clause_214 (by decide) (fun c9 => ?_) (fun c9 => ?_)
        · rw [if_pos c9] at hR
          refine lv_aload_n hx hb dX12_clause_222 rfl (lv_at hl 0 rfl) ?_
          refine lv_dup hx hb dX12_clause_223 rfl ?_
          refine gX12_at X w lfX12_103 dX12_clause_224 ?_
          refine lv_iconst (v := 1) hx hb dX12_clause_227 (by decide) ?_
          refine lv_iadd hx hb dX12_clause_228 ?_
          obtain ⟨T10, eT10, hR⟩ := lt_e hR
          refine pX12_at X w lfX12_103 dX12_clause_229 (fun H locs w => ?_)
          rw [← eT10] at w
          refine lv_aload_n hx hb dX12_clause_232 rfl (lv_at hl 0 rfl) ?_
          refine gX12_sumFrom X w lfX12_28 dX12_clause_233 ?_
          refine lv_iload_n hx hb dX12_clause_236 rfl (lv_at hl 1 rfl) ?_
          refine lv_aload_n hx hb dX12_clause_237 rfl (lv_at hl 0 rfl) ?_
          refine gX12_codes X w lfX12_19 dX12_clause_238 ?_
          refine lv_aload_n hx hb dX12_clause_241 rfl (lv_at hl 0 rfl) ?_
          refine gX12_text X w lfX12_113 dX12_clause_242 ?_
          obtain ⟨g11, hR⟩ := ck_e hR
          refine ialT (n := 5) rfl (by decide) X w rfl g11 dX12_clause_245 ?_
          obtain ⟨g12, hR⟩ := ck_e hR
          obtain ⟨T13, eT13, hR⟩ := lt_e hR
          refine iasT (n := 700) rfl (by decide) X w rfl g12 dX12_clause_246 (fun H locs w => ?_)
          rw [← eT13] at w
          refine lv_aload_n hx hb dX12_clause_247 rfl (lv_at hl 0 rfl) ?_
          obtain ⟨T15, h14, hR⟩ := bd_e hR
          refine cVv (k := 52) (As := []) (rest := []) X hl.1 w okX12_sum obX12 rfl lmX12_143 (kX12_sum 9 h14) ⟨Nat.le_of_ble_eq_true rfl, Nat.le_of_ble_eq_true rfl⟩ ⟨rfl, rfl⟩ ⟨Nat.zero_le _, Nat.zero_le _⟩ rfl rfl (Nat.le_of_ble_eq_true rfl) dX12_clause_248 (fun H locs w => ?_)
          exact J251 x1 T15 hR _ _ _ w (lv_sub hl [0, 1] rfl)
        · rw [if_neg c9] at hR
          refine lv_aload_n hx hb dX12_clause_217 rfl (lv_at hl 0 rfl) ?_
          obtain ⟨T17, h16, hR⟩ := bd_e hR
          refine cVv (k := 52) (As := []) (rest := []) X hl.1 w okX12_bad obX12 rfl lmX12_119 (kX12_bad h16) ⟨Nat.le_of_ble_eq_true rfl, Nat.le_of_ble_eq_true rfl⟩ ⟨rfl, rfl⟩ ⟨Nat.zero_le _, Nat.zero_le _⟩ rfl rfl (Nat.le_of_ble_eq_true rfl) dX12_clause_218 (fun H locs w => ?_)
          rw [hQ]
          exact rt_v X hr hlk w hsz rfl (lf1 hR) dX12_clause_221
  have J167 : ∀ (x1 : Int32) (y0 : Int32) (T : SS), fX12_clause_j167 N x1 y0 T = some T' → WAT p l ev ({ frames := 428, cells := 0, slots := 0, locals := 8821 } : Room) s m args below meth c QQ 3 D dA ad t1 t2 S T o 167 [(0, .ref (ad 52)), (1, .int x1)] [.int y0] := by
    intro x1 y0 T hR H locs ls w hl
    unfold fX12_clause_j167 at hR
    refine lv_istore_n (lv' := [(2, .int y0), (0, .ref (ad 52)), (1, .int x1)]) hx hb dX12_clause_167 rfl hl (by decide) rfl (fun ls hl => ?_)
    refine lv_iload_n hx hb dX12_clause_168 rfl (lv_at hl 0 rfl) ?_
    refine lv_if_eq (tgt := 184) hx hb dX12_clause_169 (by decide) (fun c1 => ?_) (fun c1 => ?_)
    · rw [if_pos c1] at hR
      exact J184 x1 y0 T hR _ _ _ w (lv_sub hl [1, 2, 0] rfl)
    · rw [if_neg c1] at hR
      refine lv_aload_n hx hb dX12_clause_172 rfl (lv_at hl 1 rfl) ?_
      obtain ⟨T3, h2, hR⟩ := bd_e hR
      refine cVv (k := 52) (As := []) (rest := []) X hl.1 w okX12_compare obX12 rfl lmX12_165 (kX12_compare h2) ⟨Nat.le_of_ble_eq_true rfl, Nat.le_of_ble_eq_true rfl⟩ ⟨rfl, rfl⟩ ⟨Nat.zero_le _, Nat.zero_le _⟩ rfl rfl (Nat.le_of_ble_eq_true rfl) dX12_clause_173 (fun H locs w => ?_)
      refine lv_aload_n hx hb dX12_clause_176 rfl (lv_at hl 1 rfl) ?_
      obtain ⟨T5, h4, hR⟩ := bd_e hR
      refine cVv (k := 52) (As := []) (rest := []) X hl.1 w okX12_goOnAnd obX12 rfl lmX12_168 (kX12_goOnAnd (kX12_unit 9) h4) ⟨Nat.le_of_ble_eq_true rfl, Nat.le_of_ble_eq_true rfl⟩ ⟨rfl, rfl⟩ ⟨Nat.zero_le _, Nat.zero_le _⟩ rfl rfl (Nat.le_of_ble_eq_true rfl) dX12_clause_177 (fun H locs w => ?_)
      refine lv_aload_n hx hb dX12_clause_180 rfl (lv_at hl 1 rfl) ?_
      obtain ⟨T7, h6, hR⟩ := bd_e hR
      refine cVv (k := 52) (As := []) (rest := []) X hl.1 w okX12_goOnOr obX12 rfl lmX12_171 (kX12_goOnOr (kX12_unit 9) h6) ⟨Nat.le_of_ble_eq_true rfl, Nat.le_of_ble_eq_true rfl⟩ ⟨rfl, rfl⟩ ⟨Nat.zero_le _, Nat.zero_le _⟩ rfl rfl (Nat.le_of_ble_eq_true rfl) dX12_clause_181 (fun H locs w => ?_)
      exact J184 x1 y0 T7 hR _ _ _ w (lv_sub hl [1, 2, 0] rfl)
  have J166 : ∀ (x1 : Int32) (T : SS), fX12_clause_j166 N x1 T = some T' → WAT p l ev ({ frames := 428, cells := 0, slots := 0, locals := 8821 } : Room) s m args below meth c QQ 3 D dA ad t1 t2 S T o 166 [(0, .ref (ad 52)), (1, .int x1)] [] := by
    intro x1 T hR H locs ls w hl
    unfold fX12_clause_j166 at hR
    refine lv_iconst (v := 0) hx hb dX12_clause_166 (by decide) ?_
    exact J167 x1 0 T hR _ _ _ w (lv_sub hl [0, 1] rfl)
  have J128 : ∀ (x1 : Int32) (y0 : Int32) (T : SS), fX12_clause_j128 N x1 y0 T = some T' → WAT p l ev ({ frames := 428, cells := 0, slots := 0, locals := 8821 } : Room) s m args below meth c QQ 3 D dA ad t1 t2 S T o 128 [(0, .ref (ad 52)), (1, .int x1)] [.int y0] := by
    intro x1 y0 T hR H locs ls w hl
    unfold fX12_clause_j128 at hR
    refine lv_istore_n (lv' := [(2, .int y0), (0, .ref (ad 52)), (1, .int x1)]) hx hb dX12_clause_128 rfl hl (by decide) rfl (fun ls hl => ?_)
    refine lv_iload_n hx hb dX12_clause_129 rfl (lv_at hl 0 rfl) ?_
    refine lv_if_eq (tgt := 140) hx hb dX12_clause_130 (by decide) (fun c1 => ?_) (fun c1 => ?_)
    · rw [if_pos c1] at hR
      refine lv_aload_n hx hb dX12_clause_140 rfl (lv_at hl 1 rfl) ?_
      obtain ⟨T3, h2, hR⟩ := bd_e hR
      refine cVv (k := 52) (As := []) (rest := []) X hl.1 w okX12_sum obX12 rfl lmX12_143 (kX12_sum 9 h2) ⟨Nat.le_of_ble_eq_true rfl, Nat.le_of_ble_eq_true rfl⟩ ⟨rfl, rfl⟩ ⟨Nat.zero_le _, Nat.zero_le _⟩ rfl rfl (Nat.le_of_ble_eq_true rfl) dX12_clause_141 (fun H locs w => ?_)
      refine lv_aload_n hx hb dX12_clause_144 rfl (lv_at hl 1 rfl) ?_
      refine gX12_wrong X w lfX12_110 dX12_clause_145 ?_
      refine lv_iconst (v := -1) hx hb dX12_clause_148 (by decide) ?_
      refine lv_icmp_ne (tgt := 166) hx hb dX12_clause_149 (by decide) (fun c4 => ?_) (fun c4 => ?_)
      · rw [if_neg c4] at hR
        exact J166 x1 T3 hR _ _ _ w (lv_sub hl [1, 2] rfl)
      · rw [if_pos c4] at hR
        refine lv_aload_n hx hb dX12_clause_152 rfl (lv_at hl 1 rfl) ?_
        obtain ⟨T7, r6, h5, hR⟩ := b2_e hR
        refine cVi (k := 52) (As := []) (rest := []) X hl.1 w okX12_look obX12 rfl lmX12_122 (kX12_look h5) ⟨Nat.le_of_ble_eq_true rfl, Nat.le_of_ble_eq_true rfl⟩ ⟨rfl, rfl⟩ ⟨Nat.zero_le _, Nat.zero_le _⟩ rfl rfl (Nat.le_of_ble_eq_true rfl) dX12_clause_153 (fun H locs zr6 w => ?_)
        obtain ⟨r9, h8, hR⟩ := bd_e hR
        refine cSi (As := [.int r6]) (rest := []) X hl.1 w okX12_isSign lmX12_156 (kX12_isSign h8) ⟨Nat.le_of_ble_eq_true rfl, Nat.le_of_ble_eq_true rfl⟩ ⟨rfl, rfl⟩ ⟨Nat.zero_le _, Nat.zero_le _⟩ rfl rfl (Nat.le_of_ble_eq_true rfl) dX12_clause_156 (fun H locs zr9 w => ?_)
        refine lv_if_eq (tgt := 166) hx hb dX12_clause_159 (by decide) (fun c10 => ?_) (fun c10 => ?_)
        · rw [if_pos c10] at hR
          exact J166 x1 T7 hR _ _ _ w (lv_sub hl [1, 2] rfl)
        · rw [if_neg c10] at hR
          refine lv_iconst (v := 1) hx hb dX12_clause_162 (by decide) ?_
          refine lv_goto (tgt := 167) hx hb dX12_clause_163 (by decide) ?_
          exact J167 x1 1 T7 hR _ _ _ w (lv_sub hl [1, 2] rfl)
    · rw [if_neg c1] at hR
      refine lv_aload_n hx hb dX12_clause_133 rfl (lv_at hl 1 rfl) ?_
      obtain ⟨T12, h11, hR⟩ := bd_e hR
      refine cVv (k := 52) (As := []) (rest := []) X hl.1 w okX12_condition obX12 rfl lmX12_162 (kX12_condition (kX12_unit 9) h11) ⟨Nat.le_of_ble_eq_true rfl, Nat.le_of_ble_eq_true rfl⟩ ⟨rfl, rfl⟩ ⟨Nat.zero_le _, Nat.zero_le _⟩ rfl rfl (Nat.le_of_ble_eq_true rfl) dX12_clause_134 (fun H locs w => ?_)
      refine lv_goto (tgt := 184) hx hb dX12_clause_137 (by decide) ?_
      exact J184 x1 y0 T12 hR _ _ _ w (lv_sub hl [1, 2, 0] rfl)
  have J123 : ∀ (x1 : Int32) (T : SS), fX12_clause_j123 N x1 T = some T' → WAT p l ev ({ frames := 428, cells := 0, slots := 0, locals := 8821 } : Room) s m args below meth c QQ 3 D dA ad t1 t2 S T o 123 [(0, .ref (ad 52)), (1, .int x1)] [] := by
    intro x1 T hR H locs ls w hl
    unfold fX12_clause_j123 at hR
    refine lv_iconst (v := 1) hx hb dX12_clause_123 (by decide) ?_
    refine lv_goto (tgt := 128) hx hb dX12_clause_124 (by decide) ?_
    exact J128 x1 1 T hR _ _ _ w (lv_sub hl [0, 1] rfl)
  have J71 : ∀ (x1 : Int32) (T : SS), fX12_clause_j71 N x1 T = some T' → WAT p l ev ({ frames := 428, cells := 0, slots := 0, locals := 8821 } : Room) s m args below meth c QQ 3 D dA ad t1 t2 S T o 71 [(0, .ref (ad 52)), (1, .int x1)] [] := by
    intro x1 T hR H locs ls w hl
    unfold fX12_clause_j71 at hR
    refine lv_aload_n hx hb dX12_clause_71 rfl (lv_at hl 0 rfl) ?_
    refine lv_dup hx hb dX12_clause_72 rfl ?_
    refine gX12_at X w lfX12_103 dX12_clause_73 ?_
    refine lv_iconst (v := 1) hx hb dX12_clause_76 (by decide) ?_
    refine lv_iadd hx hb dX12_clause_77 ?_
    obtain ⟨T1, eT1, hR⟩ := lt_e hR
    refine pX12_at X w lfX12_103 dX12_clause_78 (fun H locs w => ?_)
    rw [← eT1] at w
    refine lv_aload_n hx hb dX12_clause_81 rfl (lv_at hl 0 rfl) ?_
    refine gX12_wrong X w lfX12_110 dX12_clause_82 ?_
    refine lv_iconst (v := -1) hx hb dX12_clause_85 (by decide) ?_
    refine lv_icmp_eq (tgt := 90) hx hb dX12_clause_86 (by decide) (fun c2 => ?_) (fun c2 => ?_)
    · rw [if_pos c2] at hR
      refine lv_aload_n hx hb dX12_clause_90 rfl (lv_at hl 0 rfl) ?_
      refine gX12_testFrom X w lfX12_25 dX12_clause_91 ?_
      refine lv_iload_n hx hb dX12_clause_94 rfl (lv_at hl 1 rfl) ?_
      refine lv_aload_n hx hb dX12_clause_95 rfl (lv_at hl 0 rfl) ?_
      refine gX12_codes X w lfX12_19 dX12_clause_96 ?_
      refine lv_aload_n hx hb dX12_clause_99 rfl (lv_at hl 0 rfl) ?_
      refine gX12_text X w lfX12_113 dX12_clause_100 ?_
      obtain ⟨g3, hR⟩ := ck_e hR
      refine ialT (n := 5) rfl (by decide) X w rfl g3 dX12_clause_103 ?_
      obtain ⟨g4, hR⟩ := ck_e hR
      obtain ⟨T5, eT5, hR⟩ := lt_e hR
      refine iasT (n := 700) rfl (by decide) X w rfl g4 dX12_clause_104 (fun H locs w => ?_)
      rw [← eT5] at w
      refine lv_aload_n hx hb dX12_clause_105 rfl (lv_at hl 0 rfl) ?_
      obtain ⟨T8, r7, h6, hR⟩ := b2_e hR
      refine cVi (k := 52) (As := []) (rest := []) X hl.1 w okX12_look obX12 rfl lmX12_122 (kX12_look h6) ⟨Nat.le_of_ble_eq_true rfl, Nat.le_of_ble_eq_true rfl⟩ ⟨rfl, rfl⟩ ⟨Nat.zero_le _, Nat.zero_le _⟩ rfl rfl (Nat.le_of_ble_eq_true rfl) dX12_clause_106 (fun H locs zr7 w => ?_)
      refine lv_bipush (v := 33) hx hb dX12_clause_109 (by decide) ?_
      refine lv_icmp_eq (tgt := 123) hx hb dX12_clause_111 (by decide) (fun c9 => ?_) (fun c9 => ?_)
      · rw [if_pos c9] at hR
        exact J123 x1 T8 hR _ _ _ w (lv_sub hl [0, 1] rfl)
      · rw [if_neg c9] at hR
        refine lv_aload_n hx hb dX12_clause_114 rfl (lv_at hl 0 rfl) ?_
        obtain ⟨T12, r11, h10, hR⟩ := b2_e hR
        refine cVi (k := 52) (As := []) (rest := []) X hl.1 w okX12_look obX12 rfl lmX12_122 (kX12_look h10) ⟨Nat.le_of_ble_eq_true rfl, Nat.le_of_ble_eq_true rfl⟩ ⟨rfl, rfl⟩ ⟨Nat.zero_le _, Nat.zero_le _⟩ rfl rfl (Nat.le_of_ble_eq_true rfl) dX12_clause_115 (fun H locs zr11 w => ?_)
        refine lv_bipush (v := 40) hx hb dX12_clause_118 (by decide) ?_
        refine lv_icmp_ne (tgt := 127) hx hb dX12_clause_120 (by decide) (fun c13 => ?_) (fun c13 => ?_)
        · rw [if_neg c13] at hR
          refine lv_iconst (v := 0) hx hb dX12_clause_127 (by decide) ?_
          exact J128 x1 0 T12 hR _ _ _ w (lv_sub hl [0, 1] rfl)
        · rw [if_pos c13] at hR
          exact J123 x1 T12 hR _ _ _ w (lv_sub hl [0, 1] rfl)
    · rw [if_neg c2] at hR
      rw [hQ]
      exact rt_v X hr hlk w hsz rfl (lf1 hR) dX12_clause_89
  have J40 : ∀ (x1 : Int32) (T : SS), fX12_clause_j40 N x1 T = some T' → WAT p l ev ({ frames := 428, cells := 0, slots := 0, locals := 8821 } : Room) s m args below meth c QQ 3 D dA ad t1 t2 S T o 40 [(0, .ref (ad 52)), (1, .int x1)] [] := by
    intro x1 T hR H locs ls w hl
    unfold fX12_clause_j40 at hR
    refine lv_aload_n hx hb dX12_clause_40 rfl (lv_at hl 0 rfl) ?_
    refine lv_dup hx hb dX12_clause_41 rfl ?_
    refine gX12_at X w lfX12_103 dX12_clause_42 ?_
    refine lv_iconst (v := 1) hx hb dX12_clause_45 (by decide) ?_
    refine lv_iadd hx hb dX12_clause_46 ?_
    obtain ⟨T1, eT1, hR⟩ := lt_e hR
    refine pX12_at X w lfX12_103 dX12_clause_47 (fun H locs w => ?_)
    rw [← eT1] at w
    refine lv_aload_n hx hb dX12_clause_50 rfl (lv_at hl 0 rfl) ?_
    refine gX12_wrong X w lfX12_110 dX12_clause_51 ?_
    refine lv_iconst (v := -1) hx hb dX12_clause_54 (by decide) ?_
    refine lv_icmp_ne (tgt := 71) hx hb dX12_clause_55 (by decide) (fun c2 => ?_) (fun c2 => ?_)
    · rw [if_neg c2] at hR
      exact J71 x1 T1 hR _ _ _ w (lv_sub hl [0, 1] rfl)
    · rw [if_pos c2] at hR
      refine lv_aload_n hx hb dX12_clause_58 rfl (lv_at hl 0 rfl) ?_
      obtain ⟨T5, r4, h3, hR⟩ := b2_e hR
      refine cVi (k := 52) (As := []) (rest := []) X hl.1 w okX12_look obX12 rfl lmX12_122 (kX12_look h3) ⟨Nat.le_of_ble_eq_true rfl, Nat.le_of_ble_eq_true rfl⟩ ⟨rfl, rfl⟩ ⟨Nat.zero_le _, Nat.zero_le _⟩ rfl rfl (Nat.le_of_ble_eq_true rfl) dX12_clause_59 (fun H locs zr4 w => ?_)
      refine lv_bipush (v := 58) hx hb dX12_clause_62 (by decide) ?_
      refine lv_icmp_eq (tgt := 71) hx hb dX12_clause_64 (by decide) (fun c6 => ?_) (fun c6 => ?_)
      · rw [if_pos c6] at hR
        exact J71 x1 T5 hR _ _ _ w (lv_sub hl [0, 1] rfl)
      · rw [if_neg c6] at hR
        refine lv_aload_n hx hb dX12_clause_67 rfl (lv_at hl 0 rfl) ?_
        obtain ⟨T8, h7, hR⟩ := bd_e hR
        refine cVv (k := 52) (As := []) (rest := []) X hl.1 w okX12_bad obX12 rfl lmX12_119 (kX12_bad h7) ⟨Nat.le_of_ble_eq_true rfl, Nat.le_of_ble_eq_true rfl⟩ ⟨rfl, rfl⟩ ⟨Nat.zero_le _, Nat.zero_le _⟩ rfl rfl (Nat.le_of_ble_eq_true rfl) dX12_clause_68 (fun H locs w => ?_)
        exact J71 x1 T8 hR _ _ _ w (lv_sub hl [0, 1] rfl)
  have hl : lv_has ls 3 [(0, .ref (ad 52))] := hl
  unfold fX12_clause at hR
  refine lv_sipush (v := 140) hx hb dX12_clause_0 (by decide) ?_
  refine lv_aload_n hx hb dX12_clause_3 rfl (lv_at hl 0 rfl) ?_
  refine gX12_text X w lfX12_113 dX12_clause_4 ?_
  refine lv_imul hx hb dX12_clause_7 ?_
  refine lv_aload_n hx hb dX12_clause_8 rfl (lv_at hl 0 rfl) ?_
  refine gX12_clauses X w lfX12_22 dX12_clause_9 ?_
  refine lv_aload_n hx hb dX12_clause_12 rfl (lv_at hl 0 rfl) ?_
  refine gX12_text X w lfX12_113 dX12_clause_13 ?_
  obtain ⟨g1, hR⟩ := ck_e hR
  refine ialT (n := 5) rfl (by decide) X w rfl g1 dX12_clause_16 ?_
  refine lv_iadd hx hb dX12_clause_17 ?_
  obtain ⟨v2, ev2, hR⟩ := lt_e hR
  refine nm_i ev2 ?_
  refine lv_istore_n (lv' := [(1, .int v2), (0, .ref (ad 52))]) hx hb dX12_clause_18 rfl hl (by decide) rfl (fun ls hl => ?_)
  refine lv_aload_n hx hb dX12_clause_19 rfl (lv_at hl 1 rfl) ?_
  refine gX12_wrong X w lfX12_110 dX12_clause_20 ?_
  refine lv_iconst (v := -1) hx hb dX12_clause_23 (by decide) ?_
  refine lv_icmp_ne (tgt := 40) hx hb dX12_clause_24 (by decide) (fun c3 => ?_) (fun c3 => ?_)
  · rw [if_neg c3] at hR
    exact J40 v2 T hR _ _ _ w (lv_sub hl [1, 0] rfl)
  · rw [if_pos c3] at hR
    refine lv_aload_n hx hb dX12_clause_27 rfl (lv_at hl 1 rfl) ?_
    obtain ⟨T6, r5, h4, hR⟩ := b2_e hR
    refine cVi (k := 52) (As := []) (rest := []) X hl.1 w okX12_look obX12 rfl lmX12_122 (kX12_look h4) ⟨Nat.le_of_ble_eq_true rfl, Nat.le_of_ble_eq_true rfl⟩ ⟨rfl, rfl⟩ ⟨Nat.zero_le _, Nat.zero_le _⟩ rfl rfl (Nat.le_of_ble_eq_true rfl) dX12_clause_28 (fun H locs zr5 w => ?_)
    refine lv_bipush (v := 121) hx hb dX12_clause_31 (by decide) ?_
    refine lv_icmp_eq (tgt := 40) hx hb dX12_clause_33 (by decide) (fun c7 => ?_) (fun c7 => ?_)
    · rw [if_pos c7] at hR
      exact J40 v2 T6 hR _ _ _ w (lv_sub hl [1, 0] rfl)
    · rw [if_neg c7] at hR
      refine lv_aload_n hx hb dX12_clause_36 rfl (lv_at hl 1 rfl) ?_
      obtain ⟨T9, h8, hR⟩ := bd_e hR
      refine cVv (k := 52) (As := []) (rest := []) X hl.1 w okX12_bad obX12 rfl lmX12_119 (kX12_bad h8) ⟨Nat.le_of_ble_eq_true rfl, Nat.le_of_ble_eq_true rfl⟩ ⟨rfl, rfl⟩ ⟨Nat.zero_le _, Nat.zero_le _⟩ rfl rfl (Nat.le_of_ble_eq_true rfl) dX12_clause_37 (fun H locs w => ?_)
      exact J40 v2 T9 hR _ _ _ w (lv_sub hl [1, 0] rfl)
/- LooseEndsModel.open(I)V -/
def fX12_open (N : Nat) (T : SS) (p1 : Int32) : Option (SS) := lt (pj T 52 14 p1) fun T1 =>
  lt (pj T1 52 3 0) fun T2 =>
  lt (pj T2 52 4 (-1)) fun T3 =>
  lt (pj T3 52 5 0) fun T4 =>
  ck (inb p1 5) <|
  lt (pa T4 56 p1 0) fun T6 =>
  ck (inb p1 5) <|
  lt (pa T6 57 p1 0) fun T8 =>
  some T8
set_option maxHeartbeats 4000000 in
set_option maxRecDepth 100000 in
theorem kX12_open {l : Launch} {D : va_G} {dA : Nat → ClassId} {ad : Nat → Nat} {t1 t2 : Nat} {N : Nat} {S T : SS} {o : Nat → Int64} {p1 : Int32} {T' : SS} (hR : fX12_open N T p1 = some T') : KV l D dA ad t1 t2 yX12_open cX12_open 2 { frames := 0, cells := 0, slots := 0, locals := 0 } [.ref (ad 52), .int p1] S T o S T' := by
  intro sz
  refine en_ (plainFor_of_name (by decide)) (Nat.le_of_ble_eq_true rfl) ?_
  intro p ev s m args below meth c QQ hQ hsz X hr hlk w ls hl
  have hx := X.1
  have hb := X.2.1
  have hl : lv_has ls 2 [(0, .ref (ad 52)), (1, .int p1)] := hl
  unfold fX12_open at hR
  refine lv_aload_n hx hb dX12_open_0 rfl (lv_at hl 0 rfl) ?_
  refine lv_iload_n hx hb dX12_open_1 rfl (lv_at hl 1 rfl) ?_
  obtain ⟨T1, eT1, hR⟩ := lt_e hR
  refine pX12_text X w lfX12_113 dX12_open_2 (fun H locs w => ?_)
  rw [← eT1] at w
  refine lv_aload_n hx hb dX12_open_5 rfl (lv_at hl 0 rfl) ?_
  refine lv_iconst (v := 0) hx hb dX12_open_6 (by decide) ?_
  obtain ⟨T2, eT2, hR⟩ := lt_e hR
  refine pX12_at X w lfX12_103 dX12_open_7 (fun H locs w => ?_)
  rw [← eT2] at w
  refine lv_aload_n hx hb dX12_open_10 rfl (lv_at hl 0 rfl) ?_
  refine lv_iconst (v := -1) hx hb dX12_open_11 (by decide) ?_
  obtain ⟨T3, eT3, hR⟩ := lt_e hR
  refine pX12_wrong X w lfX12_110 dX12_open_12 (fun H locs w => ?_)
  rw [← eT3] at w
  refine lv_aload_n hx hb dX12_open_15 rfl (lv_at hl 0 rfl) ?_
  refine lv_iconst (v := 0) hx hb dX12_open_16 (by decide) ?_
  obtain ⟨T4, eT4, hR⟩ := lt_e hR
  refine pX12_deep X w lfX12_116 dX12_open_17 (fun H locs w => ?_)
  rw [← eT4] at w
  refine lv_aload_n hx hb dX12_open_20 rfl (lv_at hl 0 rfl) ?_
  refine gX12_codes X w lfX12_19 dX12_open_21 ?_
  refine lv_iload_n hx hb dX12_open_24 rfl (lv_at hl 1 rfl) ?_
  refine lv_iconst (v := 0) hx hb dX12_open_25 (by decide) ?_
  obtain ⟨g5, hR⟩ := ck_e hR
  obtain ⟨T6, eT6, hR⟩ := lt_e hR
  refine iasT (n := 5) rfl (by decide) X w rfl g5 dX12_open_26 (fun H locs w => ?_)
  rw [← eT6] at w
  refine lv_aload_n hx hb dX12_open_27 rfl (lv_at hl 0 rfl) ?_
  refine gX12_clauses X w lfX12_22 dX12_open_28 ?_
  refine lv_iload_n hx hb dX12_open_31 rfl (lv_at hl 1 rfl) ?_
  refine lv_iconst (v := 0) hx hb dX12_open_32 (by decide) ?_
  obtain ⟨g7, hR⟩ := ck_e hR
  obtain ⟨T8, eT8, hR⟩ := lt_e hR
  refine iasT (n := 5) rfl (by decide) X w rfl g7 dX12_open_33 (fun H locs w => ?_)
  rw [← eT8] at w
  rw [hQ]
  exact rt_v X hr hlk w hsz rfl (lf1 hR) dX12_open_34
/- LooseEndsModel.atEnd()I -/
def fX12_atEnd (N : Nat) (T : SS) : Option (SS × Int32) := if (gi T 52 4) = (-1) then
  (b2 (fX12_look N T) fun T4 r3 =>
  if r3 = (-1) then
  (some (T4, gi T4 52 4))
  else
  (bd (fX12_bad N T4) fun T7 =>
  some (T7, gi T7 52 4)))
  else
  (some (T, gi T 52 4))
set_option maxHeartbeats 4000000 in
set_option maxRecDepth 100000 in
theorem kX12_atEnd {l : Launch} {D : va_G} {dA : Nat → ClassId} {ad : Nat → Nat} {t1 t2 : Nat} {N : Nat} {S T : SS} {o : Nat → Int64} {r : Int32} {T' : SS} (hR : fX12_atEnd N T = some (T', r)) : KI l D dA ad t1 t2 yX12_atEnd cX12_atEnd 1 .int { frames := 2, cells := 0, slots := 0, locals := 40 } [.ref (ad 52)] S T o r S T' := by
  intro sz
  refine en_ (plainFor_of_name (by decide)) (Nat.le_of_ble_eq_true rfl) ?_
  intro p ev s m args below meth c QQ hQ hsz X hr hlk w ls hl
  have hx := X.1
  have hb := X.2.1
  have hl : lv_has ls 1 [(0, .ref (ad 52))] := hl
  unfold fX12_atEnd at hR
  refine lv_aload_n hx hb dX12_atEnd_0 rfl (lv_at hl 0 rfl) ?_
  refine gX12_wrong X w lfX12_110 dX12_atEnd_1 ?_
  refine lv_iconst (v := -1) hx hb dX12_atEnd_4 (by decide) ?_
  refine lv_icmp_ne (tgt := 20) hx hb dX12_atEnd_5 (by decide) (fun c1 => ?_) (fun c1 => ?_)
  · rw [if_neg c1] at hR
    refine lv_aload_n hx hb dX12_atEnd_20 rfl (lv_at hl 0 rfl) ?_
    refine gX12_wrong X w lfX12_110 dX12_atEnd_21 ?_
    rw [hQ]
    exact rt_i X hr hlk w hsz rfl rfl (lf2 hR).1 (lf2 hR).2 dX12_atEnd_24
  · rw [if_pos c1] at hR
    refine lv_aload_n hx hb dX12_atEnd_8 rfl (lv_at hl 0 rfl) ?_
    obtain ⟨T4, r3, h2, hR⟩ := b2_e hR
    refine cVi (k := 52) (As := []) (rest := []) X hl.1 w okX12_look obX12 rfl lmX12_122 (kX12_look h2) ⟨Nat.le_of_ble_eq_true rfl, Nat.le_of_ble_eq_true rfl⟩ ⟨rfl, rfl⟩ ⟨Nat.zero_le _, Nat.zero_le _⟩ rfl rfl (Nat.le_of_ble_eq_true rfl) dX12_atEnd_9 (fun H locs zr3 w => ?_)
    refine lv_iconst (v := -1) hx hb dX12_atEnd_12 (by decide) ?_
    refine lv_icmp_eq (tgt := 20) hx hb dX12_atEnd_13 (by decide) (fun c5 => ?_) (fun c5 => ?_)
    · rw [if_pos c5] at hR
      refine lv_aload_n hx hb dX12_atEnd_20 rfl (lv_at hl 0 rfl) ?_
      refine gX12_wrong X w lfX12_110 dX12_atEnd_21 ?_
      rw [hQ]
      exact rt_i X hr hlk w hsz rfl rfl (lf2 hR).1 (lf2 hR).2 dX12_atEnd_24
    · rw [if_neg c5] at hR
      refine lv_aload_n hx hb dX12_atEnd_16 rfl (lv_at hl 0 rfl) ?_
      obtain ⟨T7, h6, hR⟩ := bd_e hR
      refine cVv (k := 52) (As := []) (rest := []) X hl.1 w okX12_bad obX12 rfl lmX12_119 (kX12_bad h6) ⟨Nat.le_of_ble_eq_true rfl, Nat.le_of_ble_eq_true rfl⟩ ⟨rfl, rfl⟩ ⟨Nat.zero_le _, Nat.zero_le _⟩ rfl rfl (Nat.le_of_ble_eq_true rfl) dX12_atEnd_17 (fun H locs w => ?_)
      refine lv_aload_n hx hb dX12_atEnd_20 rfl (lv_at hl 0 rfl) ?_
      refine gX12_wrong X w lfX12_110 dX12_atEnd_21 ?_
      rw [hQ]
      exact rt_i X hr hlk w hsz rfl rfl (lf2 hR).1 (lf2 hR).2 dX12_atEnd_24
/- LooseEndsModel.readLaw(I)I -/
def fX12_readLaw_j43 (N : Nat) (T : SS) : Option (SS × Int32) := b2 (fX12_atEnd N T) fun T3 r2 =>
  some (T3, r2)
def fX12_readLaw_l9 (N : Nat) : Nat → SS → Option (SS × Int32)
  | 0, _ => none
  | n + 1, T => if (gi T 52 4) = (-1) then
  (b2 (fX12_look N T) fun T4 r3 =>
  if r3 = 59 then
  (lt (pj T4 52 3 ((gi T4 52 3) + 1)) fun T6 =>
  bd (fX12_clause N T6) fun T8 =>
  fX12_readLaw_l9 N n T8)
  else
  (fX12_readLaw_j43 N T4))
  else
  (fX12_readLaw_j43 N T)
def fX12_readLaw (N : Nat) (T : SS) (p1 : Int32) : Option (SS × Int32) := bd (fX12_open N T p1) fun T2 =>
  bd (fX12_clause N T2) fun T4 =>
  fX12_readLaw_l9 N N T4
set_option maxHeartbeats 4000000 in
set_option maxRecDepth 100000 in
theorem kX12_readLaw {l : Launch} {D : va_G} {dA : Nat → ClassId} {ad : Nat → Nat} {t1 t2 : Nat} {N : Nat} {S T : SS} {o : Nat → Int64} {p1 : Int32} {r : Int32} {T' : SS} (hR : fX12_readLaw N T p1 = some (T', r)) : KI l D dA ad t1 t2 yX12_readLaw cX12_readLaw 2 .int { frames := 429, cells := 0, slots := 0, locals := 8843 } [.ref (ad 52), .int p1] S T o r S T' := by
  intro sz
  refine en_ (plainFor_of_name (by decide)) (Nat.le_of_ble_eq_true rfl) ?_
  intro p ev s m args below meth c QQ hQ hsz X hr hlk w ls hl
  have hx := X.1
  have hb := X.2.1
  have J43 : ∀ (T : SS), fX12_readLaw_j43 N T = some (T', r) → WAT p l ev ({ frames := 429, cells := 0, slots := 0, locals := 8843 } : Room) s m args below meth c QQ 2 D dA ad t1 t2 S T o 43 [(0, .ref (ad 52))] [] := by
    intro T hR H locs ls w hl
    unfold fX12_readLaw_j43 at hR
    refine lv_aload_n hx hb dX12_readLaw_43 rfl (lv_at hl 0 rfl) ?_
    obtain ⟨T3, r2, h1, hR⟩ := b2_e hR
    refine cVi (k := 52) (As := []) (rest := []) X hl.1 w okX12_atEnd obX12 rfl lmX12_180 (kX12_atEnd h1) ⟨Nat.le_of_ble_eq_true rfl, Nat.le_of_ble_eq_true rfl⟩ ⟨rfl, rfl⟩ ⟨Nat.zero_le _, Nat.zero_le _⟩ rfl rfl (Nat.le_of_ble_eq_true rfl) dX12_readLaw_44 (fun H locs zr2 w => ?_)
    rw [hQ]
    exact rt_i X hr hlk w hsz rfl rfl (lf2 hR).1 (lf2 hR).2 dX12_readLaw_47
  have L9 : ∀ (n : Nat), ∀ (T : SS), fX12_readLaw_l9 N n T = some (T', r) → WAT p l ev ({ frames := 429, cells := 0, slots := 0, locals := 8843 } : Room) s m args below meth c QQ 2 D dA ad t1 t2 S T o 9 [(0, .ref (ad 52))] [] := by
    intro n
    induction n with
    | zero =>
      intro T hR
      exact nomatch hR
    | succ n ih =>
      intro T hR H locs ls w hl
      rw [fX12_readLaw_l9] at hR
      refine lv_aload_n hx hb dX12_readLaw_9 rfl (lv_at hl 0 rfl) ?_
      refine gX12_wrong X w lfX12_110 dX12_readLaw_10 ?_
      refine lv_iconst (v := -1) hx hb dX12_readLaw_13 (by decide) ?_
      refine lv_icmp_ne (tgt := 43) hx hb dX12_readLaw_14 (by decide) (fun c1 => ?_) (fun c1 => ?_)
      · rw [if_neg c1] at hR
        exact J43 T hR _ _ _ w (lv_sub hl [0] rfl)
      · rw [if_pos c1] at hR
        refine lv_aload_n hx hb dX12_readLaw_17 rfl (lv_at hl 0 rfl) ?_
        obtain ⟨T4, r3, h2, hR⟩ := b2_e hR
        refine cVi (k := 52) (As := []) (rest := []) X hl.1 w okX12_look obX12 rfl lmX12_122 (kX12_look h2) ⟨Nat.le_of_ble_eq_true rfl, Nat.le_of_ble_eq_true rfl⟩ ⟨rfl, rfl⟩ ⟨Nat.zero_le _, Nat.zero_le _⟩ rfl rfl (Nat.le_of_ble_eq_true rfl) dX12_readLaw_18 (fun H locs zr3 w => ?_)
        refine lv_bipush (v := 59) hx hb dX12_readLaw_21 (by decide) ?_
        refine lv_icmp_ne (tgt := 43) hx hb dX12_readLaw_23 (by decide) (fun c5 => ?_) (fun c5 => ?_)
        · rw [if_neg c5] at hR
          exact J43 T4 hR _ _ _ w (lv_sub hl [0] rfl)
        · rw [if_pos c5] at hR
          refine lv_aload_n hx hb dX12_readLaw_26 rfl (lv_at hl 0 rfl) ?_
          refine lv_dup hx hb dX12_readLaw_27 rfl ?_
          refine gX12_at X w lfX12_103 dX12_readLaw_28 ?_
          refine lv_iconst (v := 1) hx hb dX12_readLaw_31 (by decide) ?_
          refine lv_iadd hx hb dX12_readLaw_32 ?_
          obtain ⟨T6, eT6, hR⟩ := lt_e hR
          refine pX12_at X w lfX12_103 dX12_readLaw_33 (fun H locs w => ?_)
          rw [← eT6] at w
          refine lv_aload_n hx hb dX12_readLaw_36 rfl (lv_at hl 0 rfl) ?_
          obtain ⟨T8, h7, hR⟩ := bd_e hR
          refine cVv (k := 52) (As := []) (rest := []) X hl.1 w okX12_clause obX12 rfl lmX12_177 (kX12_clause h7) ⟨Nat.le_of_ble_eq_true rfl, Nat.le_of_ble_eq_true rfl⟩ ⟨rfl, rfl⟩ ⟨Nat.zero_le _, Nat.zero_le _⟩ rfl rfl (Nat.le_of_ble_eq_true rfl) dX12_readLaw_37 (fun H locs w => ?_)
          refine lv_goto (tgt := 9) hx hb dX12_readLaw_40 (by decide) ?_
          exact ih T8 hR _ _ _ w (lv_sub hl [0] rfl)
  have hl : lv_has ls 2 [(0, .ref (ad 52)), (1, .int p1)] := hl
  unfold fX12_readLaw at hR
  refine lv_aload_n hx hb dX12_readLaw_0 rfl (lv_at hl 0 rfl) ?_
  refine lv_iload_n hx hb dX12_readLaw_1 rfl (lv_at hl 1 rfl) ?_
  obtain ⟨T2, h1, hR⟩ := bd_e hR
  refine cVv (k := 52) (As := [.int p1]) (rest := []) X hl.1 w okX12_open obX12 rfl lmX12_174 (kX12_open h1) ⟨Nat.le_of_ble_eq_true rfl, Nat.le_of_ble_eq_true rfl⟩ ⟨rfl, rfl⟩ ⟨Nat.zero_le _, Nat.zero_le _⟩ rfl rfl (Nat.le_of_ble_eq_true rfl) dX12_readLaw_2 (fun H locs w => ?_)
  refine lv_aload_n hx hb dX12_readLaw_5 rfl (lv_at hl 0 rfl) ?_
  obtain ⟨T4, h3, hR⟩ := bd_e hR
  refine cVv (k := 52) (As := []) (rest := []) X hl.1 w okX12_clause obX12 rfl lmX12_177 (kX12_clause h3) ⟨Nat.le_of_ble_eq_true rfl, Nat.le_of_ble_eq_true rfl⟩ ⟨rfl, rfl⟩ ⟨Nat.zero_le _, Nat.zero_le _⟩ rfl rfl (Nat.le_of_ble_eq_true rfl) dX12_readLaw_6 (fun H locs w => ?_)
  exact L9 N T4 hR _ _ _ w (lv_sub hl [0] rfl)
/- LooseEndsModel.bounded(J)I -/
def fX12_bounded (N : Nat) (p0 : Int64) : Option (Int32) := some ((lmx (-1000000) (lmn 1000000 p0) : Int64).toInt32)
set_option maxHeartbeats 4000000 in
set_option maxRecDepth 100000 in
theorem kX12_bounded {l : Launch} {D : va_G} {dA : Nat → ClassId} {ad : Nat → Nat} {t1 t2 : Nat} {N : Nat} {S T : SS} {o : Nat → Int64} {p0 : Int64} {r : Int32} (hR : fX12_bounded N p0 = some r) : KI l D dA ad t1 t2 yX12_bounded cX12_bounded 2 .int { frames := 1, cells := 0, slots := 0, locals := 17 } [.long p0] S T o r S T := by
  intro sz
  refine en_ (plainFor_of_name (by decide)) (Nat.le_of_ble_eq_true rfl) ?_
  intro p ev s m args below meth c QQ hQ hsz X hr hlk w ls hl
  have hx := X.1
  have hb := X.2.1
  have hl : lv_has ls 2 [(0, .long p0)] := hl
  unfold fX12_bounded at hR
  refine lv_ldc2 X.1 X.2.1 X.2.2.2.1 (X.2.2.2.2 _ lcX12_183) dX12_bounded_0 ?_
  refine lv_ldc2 X.1 X.2.1 X.2.2.2.1 (X.2.2.2.2 _ lcX12_185) dX12_bounded_3 ?_
  refine lv_lload_n hx hb dX12_bounded_6 rfl (lv_at hl 0 rfl) ?_
  refine mnL X hl.1 lmX12_187 ⟨Nat.le_of_ble_eq_true rfl, Nat.le_of_ble_eq_true rfl⟩ ⟨Nat.zero_le _, Nat.zero_le _⟩ dX12_bounded_7 ?_
  refine mxL X hl.1 lmX12_193 ⟨Nat.le_of_ble_eq_true rfl, Nat.le_of_ble_eq_true rfl⟩ ⟨Nat.zero_le _, Nat.zero_le _⟩ dX12_bounded_10 ?_
  refine lv_l2i hx hb dX12_bounded_13 rfl ?_
  rw [hQ]
  exact rt_i X hr hlk w hsz rfl rfl rfl (lf1 hR) dX12_bounded_14
/- LooseEndsModel.worked(IJJ)I -/
def fX12_worked (N : Nat) (p0 : Int32) (p1 : Int64) (p3 : Int64) : Option (Int32) := if p0 = 2 then
  (bd (fX12_bounded N (p1 + p3)) fun r3 =>
  some r3)
  else
  (if p0 = 3 then
  (bd (fX12_bounded N (p1 - p3)) fun r5 =>
  some r5)
  else
  (if p0 = 4 then
  (bd (fX12_bounded N (p1 * p3)) fun r7 =>
  some r7)
  else
  (if p0 = 5 then
  (if (lg_cmp p3 0) = 0 then
  (some 0)
  else
  (ck (decide (¬ p3 = 0)) <|
  bd (fX12_bounded N (p1 / p3)) fun r11 =>
  some r11))
  else
  (if p0 = 6 then
  (if (lg_cmp p1 p3) = 0 then
  (some 1)
  else
  (some 0))
  else
  (if p0 = 7 then
  (if 0 ≤ (lg_cmp p1 p3) then
  (some 0)
  else
  (some 1))
  else
  (if p0 = 8 then
  (if (lg_cmp p1 p3) ≤ 0 then
  (some 0)
  else
  (some 1))
  else
  (if p0 = 10 then
  (if (lg_cmp p1 0) = 0 then
  (some 0)
  else
  (if (lg_cmp p3 0) = 0 then
  (some 0)
  else
  (some 1)))
  else
  (if (lg_cmp p1 0) = 0 then
  (if (lg_cmp p3 0) = 0 then
  (some 0)
  else
  (some 1))
  else
  (some 1)))))))))
set_option maxHeartbeats 4000000 in
set_option maxRecDepth 100000 in
theorem kX12_worked {l : Launch} {D : va_G} {dA : Nat → ClassId} {ad : Nat → Nat} {t1 t2 : Nat} {N : Nat} {S T : SS} {o : Nat → Int64} {p0 : Int32} {p1 : Int64} {p3 : Int64} {r : Int32} (hR : fX12_worked N p0 p1 p3 = some r) : KI l D dA ad t1 t2 yX12_worked cX12_worked 5 .int { frames := 2, cells := 0, slots := 0, locals := 38 } [.int p0, .long p1, .long p3] S T o r S T := by
  intro sz
  refine en_ (plainFor_of_name (by decide)) (Nat.le_of_ble_eq_true rfl) ?_
  intro p ev s m args below meth c QQ hQ hsz X hr hlk w ls hl
  have hx := X.1
  have hb := X.2.1
  have hl : lv_has ls 5 [(0, .int p0), (1, .long p1), (3, .long p3)] := hl
  unfold fX12_worked at hR
  refine lv_iload_n hx hb dX12_worked_0 rfl (lv_at hl 0 rfl) ?_
  by_cases c1_0 : p0 = 2
  · rw [if_pos c1_0] at hR
    refine lv_tableIn (tgt := 52) hx hb dX12_worked_1 (by rw [c1_0]; decide) (by rw [c1_0]; decide) (by rw [c1_0]; rfl) (by decide) ?_
    refine lv_lload_n hx hb dX12_worked_52 rfl (lv_at hl 1 rfl) ?_
    refine lv_lload_n hx hb dX12_worked_53 rfl (lv_at hl 2 rfl) ?_
    refine lv_ladd hx hb dX12_worked_54 ?_
    obtain ⟨r3, h2, hR⟩ := bd_e hR
    refine cSi (As := [.long (p1 + p3)]) (rest := []) X hl.1 w okX12_bounded lmX12_196 (kX12_bounded h2) ⟨Nat.le_of_ble_eq_true rfl, Nat.le_of_ble_eq_true rfl⟩ ⟨rfl, rfl⟩ ⟨Nat.zero_le _, Nat.zero_le _⟩ rfl rfl (Nat.le_of_ble_eq_true rfl) dX12_worked_55 (fun H locs zr3 w => ?_)
    rw [hQ]
    exact rt_i X hr hlk w hsz rfl rfl rfl (lf1 hR) dX12_worked_58
  · rw [if_neg c1_0] at hR
    by_cases c1_1 : p0 = 3
    · rw [if_pos c1_1] at hR
      refine lv_tableIn (tgt := 59) hx hb dX12_worked_1 (by rw [c1_1]; decide) (by rw [c1_1]; decide) (by rw [c1_1]; rfl) (by decide) ?_
      refine lv_lload_n hx hb dX12_worked_59 rfl (lv_at hl 1 rfl) ?_
      refine lv_lload_n hx hb dX12_worked_60 rfl (lv_at hl 2 rfl) ?_
      refine lv_lsub hx hb dX12_worked_61 ?_
      obtain ⟨r5, h4, hR⟩ := bd_e hR
      refine cSi (As := [.long (p1 - p3)]) (rest := []) X hl.1 w okX12_bounded lmX12_196 (kX12_bounded h4) ⟨Nat.le_of_ble_eq_true rfl, Nat.le_of_ble_eq_true rfl⟩ ⟨rfl, rfl⟩ ⟨Nat.zero_le _, Nat.zero_le _⟩ rfl rfl (Nat.le_of_ble_eq_true rfl) dX12_worked_62 (fun H locs zr5 w => ?_)
      rw [hQ]
      exact rt_i X hr hlk w hsz rfl rfl rfl (lf1 hR) dX12_worked_65
    · rw [if_neg c1_1] at hR
      by_cases c1_2 : p0 = 4
      · rw [if_pos c1_2] at hR
        refine lv_tableIn (tgt := 66) hx hb dX12_worked_1 (by rw [c1_2]; decide) (by rw [c1_2]; decide) (by rw [c1_2]; rfl) (by decide) ?_
        refine lv_lload_n hx hb dX12_worked_66 rfl (lv_at hl 1 rfl) ?_
        refine lv_lload_n hx hb dX12_worked_67 rfl (lv_at hl 2 rfl) ?_
        refine lv_lmul hx hb dX12_worked_68 ?_
        obtain ⟨r7, h6, hR⟩ := bd_e hR
        refine cSi (As := [.long (p1 * p3)]) (rest := []) X hl.1 w okX12_bounded lmX12_196 (kX12_bounded h6) ⟨Nat.le_of_ble_eq_true rfl, Nat.le_of_ble_eq_true rfl⟩ ⟨rfl, rfl⟩ ⟨Nat.zero_le _, Nat.zero_le _⟩ rfl rfl (Nat.le_of_ble_eq_true rfl) dX12_worked_69 (fun H locs zr7 w => ?_)
        rw [hQ]
        exact rt_i X hr hlk w hsz rfl rfl rfl (lf1 hR) dX12_worked_72
      · rw [if_neg c1_2] at hR
        by_cases c1_3 : p0 = 5
        · rw [if_pos c1_3] at hR
          refine lv_tableIn (tgt := 73) hx hb dX12_worked_1 (by rw [c1_3]; decide) (by rw [c1_3]; decide) (by rw [c1_3]; rfl) (by decide) ?_
          refine lv_lload_n hx hb dX12_worked_73 rfl (lv_at hl 2 rfl) ?_
          refine lv_lconst (v := 0) hx hb dX12_worked_74 (by decide) ?_
          refine W.lcmp hx hb dX12_worked_75 ?_
          refine lv_if_ne (tgt := 83) hx hb dX12_worked_76 (by decide) (fun c8 => ?_) (fun c8 => ?_)
          · rw [if_neg c8] at hR
            refine lv_lload_n hx hb dX12_worked_83 rfl (lv_at hl 1 rfl) ?_
            refine lv_lload_n hx hb dX12_worked_84 rfl (lv_at hl 2 rfl) ?_
            obtain ⟨g9, hR⟩ := ck_e hR
            refine lv_ldiv hx hb dX12_worked_85 (of_decide_eq_true g9) ?_
            obtain ⟨r11, h10, hR⟩ := bd_e hR
            refine cSi (As := [.long (p1 / p3)]) (rest := []) X hl.1 w okX12_bounded lmX12_196 (kX12_bounded h10) ⟨Nat.le_of_ble_eq_true rfl, Nat.le_of_ble_eq_true rfl⟩ ⟨rfl, rfl⟩ ⟨Nat.zero_le _, Nat.zero_le _⟩ rfl rfl (Nat.le_of_ble_eq_true rfl) dX12_worked_86 (fun H locs zr11 w => ?_)
            rw [hQ]
            exact rt_i X hr hlk w hsz rfl rfl rfl (lf1 hR) dX12_worked_89
          · rw [if_pos c8] at hR
            refine lv_iconst (v := 0) hx hb dX12_worked_79 (by decide) ?_
            refine lv_goto (tgt := 89) hx hb dX12_worked_80 (by decide) ?_
            rw [hQ]
            exact rt_i X hr hlk w hsz rfl rfl rfl (lf1 hR) dX12_worked_89
        · rw [if_neg c1_3] at hR
          by_cases c1_4 : p0 = 6
          · rw [if_pos c1_4] at hR
            refine lv_tableIn (tgt := 90) hx hb dX12_worked_1 (by rw [c1_4]; decide) (by rw [c1_4]; decide) (by rw [c1_4]; rfl) (by decide) ?_
            refine lv_lload_n hx hb dX12_worked_90 rfl (lv_at hl 1 rfl) ?_
            refine lv_lload_n hx hb dX12_worked_91 rfl (lv_at hl 2 rfl) ?_
            refine W.lcmp hx hb dX12_worked_92 ?_
            refine lv_if_ne (tgt := 100) hx hb dX12_worked_93 (by decide) (fun c12 => ?_) (fun c12 => ?_)
            · rw [if_neg c12] at hR
              refine lv_iconst (v := 0) hx hb dX12_worked_100 (by decide) ?_
              rw [hQ]
              exact rt_i X hr hlk w hsz rfl rfl rfl (lf1 hR) dX12_worked_101
            · rw [if_pos c12] at hR
              refine lv_iconst (v := 1) hx hb dX12_worked_96 (by decide) ?_
              refine lv_goto (tgt := 101) hx hb dX12_worked_97 (by decide) ?_
              rw [hQ]
              exact rt_i X hr hlk w hsz rfl rfl rfl (lf1 hR) dX12_worked_101
          · rw [if_neg c1_4] at hR
            by_cases c1_5 : p0 = 7
            · rw [if_pos c1_5] at hR
              refine lv_tableIn (tgt := 102) hx hb dX12_worked_1 (by rw [c1_5]; decide) (by rw [c1_5]; decide) (by rw [c1_5]; rfl) (by decide) ?_
              refine lv_lload_n hx hb dX12_worked_102 rfl (lv_at hl 1 rfl) ?_
              refine lv_lload_n hx hb dX12_worked_103 rfl (lv_at hl 2 rfl) ?_
              refine W.lcmp hx hb dX12_worked_104 ?_
              refine lv_if_ge (tgt := 112) hx hb dX12_worked_105 (by decide) (fun c13 => ?_) (fun c13 => ?_)
              · rw [if_pos c13] at hR
                refine lv_iconst (v := 0) hx hb dX12_worked_112 (by decide) ?_
                rw [hQ]
                exact rt_i X hr hlk w hsz rfl rfl rfl (lf1 hR) dX12_worked_113
              · rw [if_neg c13] at hR
                refine lv_iconst (v := 1) hx hb dX12_worked_108 (by decide) ?_
                refine lv_goto (tgt := 113) hx hb dX12_worked_109 (by decide) ?_
                rw [hQ]
                exact rt_i X hr hlk w hsz rfl rfl rfl (lf1 hR) dX12_worked_113
            · rw [if_neg c1_5] at hR
              by_cases c1_6 : p0 = 8
              · rw [if_pos c1_6] at hR
                refine lv_tableIn (tgt := 114) hx hb dX12_worked_1 (by rw [c1_6]; decide) (by rw [c1_6]; decide) (by rw [c1_6]; rfl) (by decide) ?_
                refine lv_lload_n hx hb dX12_worked_114 rfl (lv_at hl 1 rfl) ?_
                refine lv_lload_n hx hb dX12_worked_115 rfl (lv_at hl 2 rfl) ?_
                refine W.lcmp hx hb dX12_worked_116 ?_
                refine lv_if_le (tgt := 124) hx hb dX12_worked_117 (by decide) (fun c14 => ?_) (fun c14 => ?_)
                · rw [if_pos c14] at hR
                  refine lv_iconst (v := 0) hx hb dX12_worked_124 (by decide) ?_
                  rw [hQ]
                  exact rt_i X hr hlk w hsz rfl rfl rfl (lf1 hR) dX12_worked_125
                · rw [if_neg c14] at hR
                  refine lv_iconst (v := 1) hx hb dX12_worked_120 (by decide) ?_
                  refine lv_goto (tgt := 125) hx hb dX12_worked_121 (by decide) ?_
                  rw [hQ]
                  exact rt_i X hr hlk w hsz rfl rfl rfl (lf1 hR) dX12_worked_125
              · rw [if_neg c1_6] at hR
                by_cases c1_7 : p0 = 10
                · rw [if_pos c1_7] at hR
                  refine lv_tableIn (tgt := 126) hx hb dX12_worked_1 (by rw [c1_7]; decide) (by rw [c1_7]; decide) (by rw [c1_7]; rfl) (by decide) ?_
                  refine lv_lload_n hx hb dX12_worked_126 rfl (lv_at hl 1 rfl) ?_
                  refine lv_lconst (v := 0) hx hb dX12_worked_127 (by decide) ?_
                  refine W.lcmp hx hb dX12_worked_128 ?_
                  refine lv_if_eq (tgt := 142) hx hb dX12_worked_129 (by decide) (fun c15 => ?_) (fun c15 => ?_)
                  · rw [if_pos c15] at hR
                    refine lv_iconst (v := 0) hx hb dX12_worked_142 (by decide) ?_
                    rw [hQ]
                    exact rt_i X hr hlk w hsz rfl rfl rfl (lf1 hR) dX12_worked_143
                  · rw [if_neg c15] at hR
                    refine lv_lload_n hx hb dX12_worked_132 rfl (lv_at hl 2 rfl) ?_
                    refine lv_lconst (v := 0) hx hb dX12_worked_133 (by decide) ?_
                    refine W.lcmp hx hb dX12_worked_134 ?_
                    refine lv_if_eq (tgt := 142) hx hb dX12_worked_135 (by decide) (fun c16 => ?_) (fun c16 => ?_)
                    · rw [if_pos c16] at hR
                      refine lv_iconst (v := 0) hx hb dX12_worked_142 (by decide) ?_
                      rw [hQ]
                      exact rt_i X hr hlk w hsz rfl rfl rfl (lf1 hR) dX12_worked_143
                    · rw [if_neg c16] at hR
                      refine lv_iconst (v := 1) hx hb dX12_worked_138 (by decide) ?_
                      refine lv_goto (tgt := 143) hx hb dX12_worked_139 (by decide) ?_
                      rw [hQ]
                      exact rt_i X hr hlk w hsz rfl rfl rfl (lf1 hR) dX12_worked_143
                · rw [if_neg c1_7] at hR
                  have hh0 := ne_int (n := 2) (by decide) c1_0
                  have hh1 := ne_int (n := 3) (by decide) c1_1
                  have hh2 := ne_int (n := 4) (by decide) c1_2
                  have hh3 := ne_int (n := 5) (by decide) c1_3
                  have hh4 := ne_int (n := 6) (by decide) c1_4
                  have hh5 := ne_int (n := 7) (by decide) c1_5
                  have hh6 := ne_int (n := 8) (by decide) c1_6
                  have hh7 := ne_int (n := 10) (by decide) c1_7
                  by_cases c1_g0 : p0 = 9
                  · refine lv_tableIn (tgt := 144) hx hb dX12_worked_1 (by rw [c1_g0]; decide) (by rw [c1_g0]; decide) (by rw [c1_g0]; rfl) (by decide) ?_
                    refine lv_lload_n hx hb dX12_worked_144 rfl (lv_at hl 1 rfl) ?_
                    refine lv_lconst (v := 0) hx hb dX12_worked_145 (by decide) ?_
                    refine W.lcmp hx hb dX12_worked_146 ?_
                    refine lv_if_ne (tgt := 156) hx hb dX12_worked_147 (by decide) (fun c17 => ?_) (fun c17 => ?_)
                    · rw [if_neg c17] at hR
                      refine lv_iconst (v := 1) hx hb dX12_worked_156 (by decide) ?_
                      refine lv_goto (tgt := 161) hx hb dX12_worked_157 (by decide) ?_
                      rw [hQ]
                      exact rt_i X hr hlk w hsz rfl rfl rfl (lf1 hR) dX12_worked_161
                    · rw [if_pos c17] at hR
                      refine lv_lload_n hx hb dX12_worked_150 rfl (lv_at hl 2 rfl) ?_
                      refine lv_lconst (v := 0) hx hb dX12_worked_151 (by decide) ?_
                      refine W.lcmp hx hb dX12_worked_152 ?_
                      refine lv_if_eq (tgt := 160) hx hb dX12_worked_153 (by decide) (fun c18 => ?_) (fun c18 => ?_)
                      · rw [if_pos c18] at hR
                        refine lv_iconst (v := 0) hx hb dX12_worked_160 (by decide) ?_
                        rw [hQ]
                        exact rt_i X hr hlk w hsz rfl rfl rfl (lf1 hR) dX12_worked_161
                      · rw [if_neg c18] at hR
                        refine lv_iconst (v := 1) hx hb dX12_worked_156 (by decide) ?_
                        refine lv_goto (tgt := 161) hx hb dX12_worked_157 (by decide) ?_
                        rw [hQ]
                        exact rt_i X hr hlk w hsz rfl rfl rfl (lf1 hR) dX12_worked_161
                  have hg0 := ne_int (n := 9) (by decide) c1_g0
                  refine lv_tableOut (tgt := 144) hx hb dX12_worked_1 (by omega) (by decide) ?_
                  refine lv_lload_n hx hb dX12_worked_144 rfl (lv_at hl 1 rfl) ?_
                  refine lv_lconst (v := 0) hx hb dX12_worked_145 (by decide) ?_
                  refine W.lcmp hx hb dX12_worked_146 ?_
                  refine lv_if_ne (tgt := 156) hx hb dX12_worked_147 (by decide) (fun c17 => ?_) (fun c17 => ?_)
                  · rw [if_neg c17] at hR
                    refine lv_iconst (v := 1) hx hb dX12_worked_156 (by decide) ?_
                    refine lv_goto (tgt := 161) hx hb dX12_worked_157 (by decide) ?_
                    rw [hQ]
                    exact rt_i X hr hlk w hsz rfl rfl rfl (lf1 hR) dX12_worked_161
                  · rw [if_pos c17] at hR
                    refine lv_lload_n hx hb dX12_worked_150 rfl (lv_at hl 2 rfl) ?_
                    refine lv_lconst (v := 0) hx hb dX12_worked_151 (by decide) ?_
                    refine W.lcmp hx hb dX12_worked_152 ?_
                    refine lv_if_eq (tgt := 160) hx hb dX12_worked_153 (by decide) (fun c18 => ?_) (fun c18 => ?_)
                    · rw [if_pos c18] at hR
                      refine lv_iconst (v := 0) hx hb dX12_worked_160 (by decide) ?_
                      rw [hQ]
                      exact rt_i X hr hlk w hsz rfl rfl rfl (lf1 hR) dX12_worked_161
                    · rw [if_neg c18] at hR
                      refine lv_iconst (v := 1) hx hb dX12_worked_156 (by decide) ?_
                      refine lv_goto (tgt := 161) hx hb dX12_worked_157 (by decide) ?_
                      rw [hQ]
                      exact rt_i X hr hlk w hsz rfl rfl rfl (lf1 hR) dX12_worked_161
/- LooseEndsModel.workOut(III)I -/
def fX12_workOut_j45 (N : Nat) (kc12 : Int32 → Int32 → Int32 → Int32 → SS → Option (SS × Int32)) (x1 : Int32) (x3 : Int32) (x4 : Int32) (x5 : Int32) (T : SS) : Option (SS × Int32) := ck (inb x5 2600) <|
  if (ga T 54 x5) = 0 then
  (ck (inb x5 2600) <|
  ck (inb x4 80) <|
  lt (pa T 62 x4 (ga T 55 x5)) fun T11 =>
  lt (x4 + 1) fun v12 =>
  lt (x5 + 1) fun v13 =>
  kc12 x1 x3 v12 v13 T11)
  else
  (ck (inb x5 2600) <|
  ck (inb (ga T 55 x5) 6) <|
  ck (inb x4 80) <|
  lt (pa T 62 x4 (ga T 61 (ga T 55 x5))) fun T6 =>
  lt (x4 + 1) fun v7 =>
  lt (x5 + 1) fun v8 =>
  kc12 x1 x3 v7 v8 T6)
def fX12_workOut_l12 (N : Nat) : Nat → Int32 → Int32 → Int32 → Int32 → SS → Option (SS × Int32)
  | 0, _, _, _, _, _ => none
  | n + 1, x1, x3, x4, x5, T => if ((520 * x1) + x3) ≤ x5 then
  (some (T, ga T 62 0))
  else
  (ck (inb x5 2600) <|
  if (ga T 54 x5) = 0 then
  (fX12_workOut_j45 N (fX12_workOut_l12 N n) x1 x3 x4 x5 T)
  else
  (ck (inb x5 2600) <|
  if (ga T 54 x5) = 1 then
  (fX12_workOut_j45 N (fX12_workOut_l12 N n) x1 x3 x4 x5 T)
  else
  (ck (inb x5 2600) <|
  if (ga T 54 x5) = 9 then
  (ck (inb (x4 - 1) 80) <|
  ck (inb (x4 - 1) 80) <|
  lt (pa T 62 (x4 - 1) (1 - (ga T 62 (x4 - 1)))) fun T19 =>
  lt (x5 + 1) fun v20 =>
  fX12_workOut_l12 N n x1 x3 x4 v20 T19)
  else
  (lt (x4 + (-1)) fun v8 =>
  ck (inb x5 2600) <|
  ck (inb (v8 - 1) 80) <|
  ck (inb v8 80) <|
  bd (fX12_worked N (ga T 54 x5) ((ga T 62 (v8 - 1) : Int32).toInt64) ((ga T 62 v8 : Int32).toInt64)) fun r13 =>
  ck (inb (v8 - 1) 80) <|
  lt (pa T 62 (v8 - 1) r13) fun T15 =>
  lt (x5 + 1) fun v16 =>
  fX12_workOut_l12 N n x1 x3 v8 v16 T15))))
def fX12_workOut (N : Nat) (T : SS) (p1 : Int32) (p2 : Int32) (p3 : Int32) : Option (SS × Int32) := lt ((520 * p1) + p2) fun v1 =>
  fX12_workOut_l12 N N p1 p3 0 v1 T
set_option maxHeartbeats 4000000 in
set_option maxRecDepth 100000 in
theorem kX12_workOut {l : Launch} {D : va_G} {dA : Nat → ClassId} {ad : Nat → Nat} {t1 t2 : Nat} {N : Nat} {S T : SS} {o : Nat → Int64} {p1 : Int32} {p2 : Int32} {p3 : Int32} {r : Int32} {T' : SS} (hR : fX12_workOut N T p1 p2 p3 = some (T', r)) : KI l D dA ad t1 t2 yX12_workOut cX12_workOut 6 .int { frames := 3, cells := 0, slots := 0, locals := 62 } [.ref (ad 52), .int p1, .int p2, .int p3] S T o r S T' := by
  intro sz
  refine en_ (plainFor_of_name (by decide)) (Nat.le_of_ble_eq_true rfl) ?_
  intro p ev s m args below meth c QQ hQ hsz X hr hlk w ls hl
  have hx := X.1
  have hb := X.2.1
  have J45 : ∀ (kc12 : Int32 → Int32 → Int32 → Int32 → SS → Option (SS × Int32)) (_ : ∀ (x1 : Int32) (x3 : Int32) (x4 : Int32) (x5 : Int32) (T : SS), kc12 x1 x3 x4 x5 T = some (T', r) → WAT p l ev ({ frames := 3, cells := 0, slots := 0, locals := 62 } : Room) s m args below meth c QQ 6 D dA ad t1 t2 S T o 12 [(0, .ref (ad 52)), (1, .int x1), (3, .int x3), (4, .int x4), (5, .int x5)] []), ∀ (x1 : Int32) (x3 : Int32) (x4 : Int32) (x5 : Int32) (T : SS), fX12_workOut_j45 N kc12 x1 x3 x4 x5 T = some (T', r) → WAT p l ev ({ frames := 3, cells := 0, slots := 0, locals := 62 } : Room) s m args below meth c QQ 6 D dA ad t1 t2 S T o 45 [(0, .ref (ad 52)), (1, .int x1), (3, .int x3), (4, .int x4), (5, .int x5)] [] := by
    intro kc12 hk12 x1 x3 x4 x5 T hR H locs ls w hl
    unfold fX12_workOut_j45 at hR
    refine lv_aload_n hx hb dX12_workOut_45 rfl (lv_at hl 0 rfl) ?_
    refine gX12_stack X w lfX12_37 dX12_workOut_46 ?_
    refine lv_iload hx hb dX12_workOut_49 (lv_at hl 3 rfl) ?_
    refine lv_aload_n hx hb dX12_workOut_51 rfl (lv_at hl 0 rfl) ?_
    refine gX12_code X w lfX12_13 dX12_workOut_52 ?_
    refine lv_iload hx hb dX12_workOut_55 (lv_at hl 4 rfl) ?_
    obtain ⟨g1, hR⟩ := ck_e hR
    refine ialT (n := 2600) rfl (by decide) X w rfl g1 dX12_workOut_57 ?_
    refine lv_if_ne (tgt := 71) hx hb dX12_workOut_58 (by decide) (fun c2 => ?_) (fun c2 => ?_)
    · rw [if_neg c2] at hR
      refine lv_aload_n hx hb dX12_workOut_71 rfl (lv_at hl 0 rfl) ?_
      refine gX12_letters X w lfX12_34 dX12_workOut_72 ?_
      refine lv_aload_n hx hb dX12_workOut_75 rfl (lv_at hl 0 rfl) ?_
      refine gX12_value X w lfX12_16 dX12_workOut_76 ?_
      refine lv_iload hx hb dX12_workOut_79 (lv_at hl 4 rfl) ?_
      obtain ⟨g3, hR⟩ := ck_e hR
      refine ialT (n := 2600) rfl (by decide) X w rfl g3 dX12_workOut_81 ?_
      obtain ⟨g4, hR⟩ := ck_e hR
      refine ialT (n := 6) rfl (by decide) X w rfl g4 dX12_workOut_82 ?_
      obtain ⟨g5, hR⟩ := ck_e hR
      obtain ⟨T6, eT6, hR⟩ := lt_e hR
      refine iasT (n := 80) rfl (by decide) X w rfl g5 dX12_workOut_83 (fun H locs w => ?_)
      rw [← eT6] at w
      obtain ⟨v7, ev7, hR⟩ := lt_e hR
      refine lv_iinc (v := v7) (lv' := [(4, .int v7), (0, .ref (ad 52)), (1, .int x1), (3, .int x3), (5, .int x5)]) hx hb dX12_workOut_84 hl (k := 3) rfl (by rw [ev7]; rfl) (by decide) rfl (fun ls hl => ?_)
      refine lv_goto (tgt := 165) hx hb dX12_workOut_87 (by decide) ?_
      obtain ⟨v8, ev8, hR⟩ := lt_e hR
      refine lv_iinc (v := v8) (lv' := [(5, .int v8), (4, .int v7), (0, .ref (ad 52)), (1, .int x1), (3, .int x3)]) hx hb dX12_workOut_165 hl (k := 4) rfl (by rw [ev8]; rfl) (by decide) rfl (fun ls hl => ?_)
      refine lv_goto (tgt := 12) hx hb dX12_workOut_168 (by decide) ?_
      exact hk12 x1 x3 v7 v8 T6 hR _ _ _ w (lv_sub hl [2, 3, 4, 1, 0] rfl)
    · rw [if_pos c2] at hR
      refine lv_aload_n hx hb dX12_workOut_61 rfl (lv_at hl 0 rfl) ?_
      refine gX12_value X w lfX12_16 dX12_workOut_62 ?_
      refine lv_iload hx hb dX12_workOut_65 (lv_at hl 4 rfl) ?_
      obtain ⟨g9, hR⟩ := ck_e hR
      refine ialT (n := 2600) rfl (by decide) X w rfl g9 dX12_workOut_67 ?_
      refine lv_goto (tgt := 83) hx hb dX12_workOut_68 (by decide) ?_
      obtain ⟨g10, hR⟩ := ck_e hR
      obtain ⟨T11, eT11, hR⟩ := lt_e hR
      refine iasT (n := 80) rfl (by decide) X w rfl g10 dX12_workOut_83 (fun H locs w => ?_)
      rw [← eT11] at w
      obtain ⟨v12, ev12, hR⟩ := lt_e hR
      refine lv_iinc (v := v12) (lv' := [(4, .int v12), (0, .ref (ad 52)), (1, .int x1), (3, .int x3), (5, .int x5)]) hx hb dX12_workOut_84 hl (k := 3) rfl (by rw [ev12]; rfl) (by decide) rfl (fun ls hl => ?_)
      refine lv_goto (tgt := 165) hx hb dX12_workOut_87 (by decide) ?_
      obtain ⟨v13, ev13, hR⟩ := lt_e hR
      refine lv_iinc (v := v13) (lv' := [(5, .int v13), (4, .int v12), (0, .ref (ad 52)), (1, .int x1), (3, .int x3)]) hx hb dX12_workOut_165 hl (k := 4) rfl (by rw [ev13]; rfl) (by decide) rfl (fun ls hl => ?_)
      refine lv_goto (tgt := 12) hx hb dX12_workOut_168 (by decide) ?_
      exact hk12 x1 x3 v12 v13 T11 hR _ _ _ w (lv_sub hl [2, 3, 4, 1, 0] rfl)
  have L12 : ∀ (n : Nat), ∀ (x1 : Int32) (x3 : Int32) (x4 : Int32) (x5 : Int32) (T : SS), fX12_workOut_l12 N n x1 x3 x4 x5 T = some (T', r) → WAT p l ev ({ frames := 3, cells := 0, slots := 0, locals := 62 } : Room) s m args below meth c QQ 6 D dA ad t1 t2 S T o 12 [(0, .ref (ad 52)), (1, .int x1), (3, .int x3), (4, .int x4), (5, .int x5)] [] := by
    intro n
    induction n with
    | zero =>
      intro x1 x3 x4 x5 T hR
      exact nomatch hR
    | succ n ih =>
      intro x1 x3 x4 x5 T hR H locs ls w hl
      rw [fX12_workOut_l12] at hR
      refine lv_iload hx hb dX12_workOut_12 (lv_at hl 4 rfl) ?_
      refine lv_sipush (v := 520) hx hb dX12_workOut_14 (by decide) ?_
      refine lv_iload_n hx hb dX12_workOut_17 rfl (lv_at hl 1 rfl) ?_
      refine lv_imul hx hb dX12_workOut_18 ?_
      refine lv_iload_n hx hb dX12_workOut_19 rfl (lv_at hl 2 rfl) ?_
      refine lv_iadd hx hb dX12_workOut_20 ?_
      refine lv_icmp_ge (tgt := 171) hx hb dX12_workOut_21 (by decide) (fun c1 => ?_) (fun c1 => ?_)
      · rw [if_pos c1] at hR
        refine lv_aload_n hx hb dX12_workOut_171 rfl (lv_at hl 0 rfl) ?_
        refine gX12_stack X w lfX12_37 dX12_workOut_172 ?_
        refine lv_iconst (v := 0) hx hb dX12_workOut_175 (by decide) ?_
        refine ialT (n := 80) rfl (by decide) X w rfl (by decide) dX12_workOut_176 ?_
        rw [hQ]
        exact rt_i X hr hlk w hsz rfl rfl (lf2 hR).1 (lf2 hR).2 dX12_workOut_177
      · rw [if_neg c1] at hR
        refine lv_aload_n hx hb dX12_workOut_24 rfl (lv_at hl 0 rfl) ?_
        refine gX12_code X w lfX12_13 dX12_workOut_25 ?_
        refine lv_iload hx hb dX12_workOut_28 (lv_at hl 4 rfl) ?_
        obtain ⟨g2, hR⟩ := ck_e hR
        refine ialT (n := 2600) rfl (by decide) X w rfl g2 dX12_workOut_30 ?_
        refine lv_if_eq (tgt := 45) hx hb dX12_workOut_31 (by decide) (fun c3 => ?_) (fun c3 => ?_)
        · rw [if_pos c3] at hR
          exact J45 _ ih x1 x3 x4 x5 T hR _ _ _ w (lv_sub hl [0, 1, 2, 3, 4] rfl)
        · rw [if_neg c3] at hR
          refine lv_aload_n hx hb dX12_workOut_34 rfl (lv_at hl 0 rfl) ?_
          refine gX12_code X w lfX12_13 dX12_workOut_35 ?_
          refine lv_iload hx hb dX12_workOut_38 (lv_at hl 4 rfl) ?_
          obtain ⟨g4, hR⟩ := ck_e hR
          refine ialT (n := 2600) rfl (by decide) X w rfl g4 dX12_workOut_40 ?_
          refine lv_iconst (v := 1) hx hb dX12_workOut_41 (by decide) ?_
          refine lv_icmp_ne (tgt := 90) hx hb dX12_workOut_42 (by decide) (fun c5 => ?_) (fun c5 => ?_)
          · rw [if_neg c5] at hR
            refine lv_aload_n hx hb dX12_workOut_90 rfl (lv_at hl 0 rfl) ?_
            refine gX12_code X w lfX12_13 dX12_workOut_91 ?_
            refine lv_iload hx hb dX12_workOut_94 (lv_at hl 4 rfl) ?_
            obtain ⟨g6, hR⟩ := ck_e hR
            refine ialT (n := 2600) rfl (by decide) X w rfl g6 dX12_workOut_96 ?_
            refine lv_bipush (v := 9) hx hb dX12_workOut_97 (by decide) ?_
            refine lv_icmp_ne (tgt := 125) hx hb dX12_workOut_99 (by decide) (fun c7 => ?_) (fun c7 => ?_)
            · rw [if_neg c7] at hR
              obtain ⟨v8, ev8, hR⟩ := lt_e hR
              refine lv_iinc (v := v8) (lv' := [(4, .int v8), (0, .ref (ad 52)), (1, .int x1), (3, .int x3), (5, .int x5)]) hx hb dX12_workOut_125 hl (k := 3) rfl (by rw [ev8]; rfl) (by decide) rfl (fun ls hl => ?_)
              refine lv_aload_n hx hb dX12_workOut_128 rfl (lv_at hl 1 rfl) ?_
              refine gX12_stack X w lfX12_37 dX12_workOut_129 ?_
              refine lv_iload hx hb dX12_workOut_132 (lv_at hl 0 rfl) ?_
              refine lv_iconst (v := 1) hx hb dX12_workOut_134 (by decide) ?_
              refine lv_isub hx hb dX12_workOut_135 ?_
              refine lv_aload_n hx hb dX12_workOut_136 rfl (lv_at hl 1 rfl) ?_
              refine gX12_code X w lfX12_13 dX12_workOut_137 ?_
              refine lv_iload hx hb dX12_workOut_140 (lv_at hl 4 rfl) ?_
              obtain ⟨g9, hR⟩ := ck_e hR
              refine ialT (n := 2600) rfl (by decide) X w rfl g9 dX12_workOut_142 ?_
              refine lv_aload_n hx hb dX12_workOut_143 rfl (lv_at hl 1 rfl) ?_
              refine gX12_stack X w lfX12_37 dX12_workOut_144 ?_
              refine lv_iload hx hb dX12_workOut_147 (lv_at hl 0 rfl) ?_
              refine lv_iconst (v := 1) hx hb dX12_workOut_149 (by decide) ?_
              refine lv_isub hx hb dX12_workOut_150 ?_
              obtain ⟨g10, hR⟩ := ck_e hR
              refine ialT (n := 80) rfl (by decide) X w rfl g10 dX12_workOut_151 ?_
              refine lv_i2l hx hb dX12_workOut_152 rfl ?_
              refine lv_aload_n hx hb dX12_workOut_153 rfl (lv_at hl 1 rfl) ?_
              refine gX12_stack X w lfX12_37 dX12_workOut_154 ?_
              refine lv_iload hx hb dX12_workOut_157 (lv_at hl 0 rfl) ?_
              obtain ⟨g11, hR⟩ := ck_e hR
              refine ialT (n := 80) rfl (by decide) X w rfl g11 dX12_workOut_159 ?_
              refine lv_i2l hx hb dX12_workOut_160 rfl ?_
              obtain ⟨r13, h12, hR⟩ := bd_e hR
              refine cSi (As := [.int (ga T 54 x5), .long ((ga T 62 (v8 - 1) : Int32).toInt64), .long ((ga T 62 v8 : Int32).toInt64)]) (rest := [.int (v8 - 1), .ref (ad 62)]) X hl.1 w okX12_worked lmX12_200 (kX12_worked h12) ⟨Nat.le_of_ble_eq_true rfl, Nat.le_of_ble_eq_true rfl⟩ ⟨rfl, rfl⟩ ⟨Nat.zero_le _, Nat.zero_le _⟩ rfl rfl (Nat.le_of_ble_eq_true rfl) dX12_workOut_161 (fun H locs zr13 w => ?_)
              obtain ⟨g14, hR⟩ := ck_e hR
              obtain ⟨T15, eT15, hR⟩ := lt_e hR
              refine iasT (n := 80) rfl (by decide) X w rfl g14 dX12_workOut_164 (fun H locs w => ?_)
              rw [← eT15] at w
              obtain ⟨v16, ev16, hR⟩ := lt_e hR
              refine lv_iinc (v := v16) (lv' := [(5, .int v16), (4, .int v8), (0, .ref (ad 52)), (1, .int x1), (3, .int x3)]) hx hb dX12_workOut_165 hl (k := 4) rfl (by rw [ev16]; rfl) (by decide) rfl (fun ls hl => ?_)
              refine lv_goto (tgt := 12) hx hb dX12_workOut_168 (by decide) ?_
              exact ih x1 x3 v8 v16 T15 hR _ _ _ w (lv_sub hl [2, 3, 4, 1, 0] rfl)
            · rw [if_pos c7] at hR
              refine lv_aload_n hx hb dX12_workOut_102 rfl (lv_at hl 0 rfl) ?_
              refine gX12_stack X w lfX12_37 dX12_workOut_103 ?_
              refine lv_iload hx hb dX12_workOut_106 (lv_at hl 3 rfl) ?_
              refine lv_iconst (v := 1) hx hb dX12_workOut_108 (by decide) ?_
              refine lv_isub hx hb dX12_workOut_109 ?_
              refine lv_iconst (v := 1) hx hb dX12_workOut_110 (by decide) ?_
              refine lv_aload_n hx hb dX12_workOut_111 rfl (lv_at hl 0 rfl) ?_
              refine gX12_stack X w lfX12_37 dX12_workOut_112 ?_
              refine lv_iload hx hb dX12_workOut_115 (lv_at hl 3 rfl) ?_
              refine lv_iconst (v := 1) hx hb dX12_workOut_117 (by decide) ?_
              refine lv_isub hx hb dX12_workOut_118 ?_
              obtain ⟨g17, hR⟩ := ck_e hR
              refine ialT (n := 80) rfl (by decide) X w rfl g17 dX12_workOut_119 ?_
              refine lv_isub hx hb dX12_workOut_120 ?_
              obtain ⟨g18, hR⟩ := ck_e hR
              obtain ⟨T19, eT19, hR⟩ := lt_e hR
              refine iasT (n := 80) rfl (by decide) X w rfl g18 dX12_workOut_121 (fun H locs w => ?_)
              rw [← eT19] at w
              refine lv_goto (tgt := 165) hx hb dX12_workOut_122 (by decide) ?_
              obtain ⟨v20, ev20, hR⟩ := lt_e hR
              refine lv_iinc (v := v20) (lv' := [(5, .int v20), (0, .ref (ad 52)), (1, .int x1), (3, .int x3), (4, .int x4)]) hx hb dX12_workOut_165 hl (k := 4) rfl (by rw [ev20]; rfl) (by decide) rfl (fun ls hl => ?_)
              refine lv_goto (tgt := 12) hx hb dX12_workOut_168 (by decide) ?_
              exact ih x1 x3 x4 v20 T19 hR _ _ _ w (lv_sub hl [1, 2, 3, 4, 0] rfl)
          · rw [if_pos c5] at hR
            exact J45 _ ih x1 x3 x4 x5 T hR _ _ _ w (lv_sub hl [0, 1, 2, 3, 4] rfl)
  have hl : lv_has ls 6 [(0, .ref (ad 52)), (1, .int p1), (2, .int p2), (3, .int p3)] := hl
  unfold fX12_workOut at hR
  refine lv_iconst (v := 0) hx hb dX12_workOut_0 (by decide) ?_
  refine lv_istore (lv' := [(4, .int 0), (0, .ref (ad 52)), (1, .int p1), (2, .int p2), (3, .int p3)]) hx hb dX12_workOut_1 hl (by decide) rfl (fun ls hl => ?_)
  refine lv_sipush (v := 520) hx hb dX12_workOut_3 (by decide) ?_
  refine lv_iload_n hx hb dX12_workOut_6 rfl (lv_at hl 2 rfl) ?_
  refine lv_imul hx hb dX12_workOut_7 ?_
  refine lv_iload_n hx hb dX12_workOut_8 rfl (lv_at hl 3 rfl) ?_
  refine lv_iadd hx hb dX12_workOut_9 ?_
  obtain ⟨v1, ev1, hR⟩ := lt_e hR
  refine nm_i ev1 ?_
  refine lv_istore (lv' := [(5, .int v1), (4, .int 0), (0, .ref (ad 52)), (1, .int p1), (2, .int p2), (3, .int p3)]) hx hb dX12_workOut_10 hl (by decide) rfl (fun ls hl => ?_)
  exact L12 N p1 p3 0 v1 T hR _ _ _ w (lv_sub hl [2, 3, 5, 1, 0] rfl)
/- LooseEndsModel.worthOf(I)I -/
def fX12_worthOf_j57 (N : Nat) (x1 : Int32) (x2 : Int32) (T : SS) : Option (SS × Int32) := ck (inb x2 700) <|
  ck (inb x2 700) <|
  b2 (fX12_workOut N T x1 (ga T 59 x2) (ga T 60 x2)) fun T5 r4 =>
  some (T5, r4)
def fX12_worthOf_l6 (N : Nat) : Nat → Int32 → Int32 → SS → Option (SS × Int32)
  | 0, _, _, _ => none
  | n + 1, x1, x2, T => ck (inb x1 5) <|
  if ((140 * x1) + (ga T 57 x1)) ≤ x2 then
  (some (T, 0))
  else
  (ck (inb x2 700) <|
  ck (inb x2 700) <|
  if (ga T 58 x2) = (ga T 59 x2) then
  (fX12_worthOf_j57 N x1 x2 T)
  else
  (ck (inb x2 700) <|
  ck (inb x2 700) <|
  b2 (fX12_workOut N T x1 (ga T 58 x2) (ga T 59 x2)) fun T10 r9 =>
  if r9 = 0 then
  (lt (x2 + 1) fun v12 =>
  fX12_worthOf_l6 N n x1 v12 T10)
  else
  (fX12_worthOf_j57 N x1 x2 T10)))
def fX12_worthOf (N : Nat) (T : SS) (p1 : Int32) : Option (SS × Int32) := lt (140 * p1) fun v1 =>
  fX12_worthOf_l6 N N p1 v1 T
set_option maxHeartbeats 4000000 in
set_option maxRecDepth 100000 in
theorem kX12_worthOf {l : Launch} {D : va_G} {dA : Nat → ClassId} {ad : Nat → Nat} {t1 t2 : Nat} {N : Nat} {S T : SS} {o : Nat → Int64} {p1 : Int32} {r : Int32} {T' : SS} (hR : fX12_worthOf N T p1 = some (T', r)) : KI l D dA ad t1 t2 yX12_worthOf cX12_worthOf 3 .int { frames := 4, cells := 0, slots := 0, locals := 87 } [.ref (ad 52), .int p1] S T o r S T' := by
  intro sz
  refine en_ (plainFor_of_name (by decide)) (Nat.le_of_ble_eq_true rfl) ?_
  intro p ev s m args below meth c QQ hQ hsz X hr hlk w ls hl
  have hx := X.1
  have hb := X.2.1
  have J57 : ∀ (x1 : Int32) (x2 : Int32) (T : SS), fX12_worthOf_j57 N x1 x2 T = some (T', r) → WAT p l ev ({ frames := 4, cells := 0, slots := 0, locals := 87 } : Room) s m args below meth c QQ 3 D dA ad t1 t2 S T o 57 [(0, .ref (ad 52)), (1, .int x1), (2, .int x2)] [] := by
    intro x1 x2 T hR H locs ls w hl
    unfold fX12_worthOf_j57 at hR
    refine lv_aload_n hx hb dX12_worthOf_57 rfl (lv_at hl 0 rfl) ?_
    refine lv_iload_n hx hb dX12_worthOf_58 rfl (lv_at hl 1 rfl) ?_
    refine lv_aload_n hx hb dX12_worthOf_59 rfl (lv_at hl 0 rfl) ?_
    refine gX12_sumFrom X w lfX12_28 dX12_worthOf_60 ?_
    refine lv_iload_n hx hb dX12_worthOf_63 rfl (lv_at hl 2 rfl) ?_
    obtain ⟨g1, hR⟩ := ck_e hR
    refine ialT (n := 700) rfl (by decide) X w rfl g1 dX12_worthOf_64 ?_
    refine lv_aload_n hx hb dX12_worthOf_65 rfl (lv_at hl 0 rfl) ?_
    refine gX12_sumTo X w lfX12_31 dX12_worthOf_66 ?_
    refine lv_iload_n hx hb dX12_worthOf_69 rfl (lv_at hl 2 rfl) ?_
    obtain ⟨g2, hR⟩ := ck_e hR
    refine ialT (n := 700) rfl (by decide) X w rfl g2 dX12_worthOf_70 ?_
    obtain ⟨T5, r4, h3, hR⟩ := b2_e hR
    refine cVi (k := 52) (As := [.int x1, .int (ga T 59 x2), .int (ga T 60 x2)]) (rest := []) X hl.1 w okX12_workOut obX12 rfl lmX12_204 (kX12_workOut h3) ⟨Nat.le_of_ble_eq_true rfl, Nat.le_of_ble_eq_true rfl⟩ ⟨rfl, rfl⟩ ⟨Nat.zero_le _, Nat.zero_le _⟩ rfl rfl (Nat.le_of_ble_eq_true rfl) dX12_worthOf_71 (fun H locs zr4 w => ?_)
    rw [hQ]
    exact rt_i X hr hlk w hsz rfl rfl (lf2 hR).1 (lf2 hR).2 dX12_worthOf_74
  have L6 : ∀ (n : Nat), ∀ (x1 : Int32) (x2 : Int32) (T : SS), fX12_worthOf_l6 N n x1 x2 T = some (T', r) → WAT p l ev ({ frames := 4, cells := 0, slots := 0, locals := 87 } : Room) s m args below meth c QQ 3 D dA ad t1 t2 S T o 6 [(0, .ref (ad 52)), (1, .int x1), (2, .int x2)] [] := by
    intro n
    induction n with
    | zero =>
      intro x1 x2 T hR
      exact nomatch hR
    | succ n ih =>
      intro x1 x2 T hR H locs ls w hl
      rw [fX12_worthOf_l6] at hR
      refine lv_iload_n hx hb dX12_worthOf_6 rfl (lv_at hl 2 rfl) ?_
      refine lv_sipush (v := 140) hx hb dX12_worthOf_7 (by decide) ?_
      refine lv_iload_n hx hb dX12_worthOf_10 rfl (lv_at hl 1 rfl) ?_
      refine lv_imul hx hb dX12_worthOf_11 ?_
      refine lv_aload_n hx hb dX12_worthOf_12 rfl (lv_at hl 0 rfl) ?_
      refine gX12_clauses X w lfX12_22 dX12_worthOf_13 ?_
      refine lv_iload_n hx hb dX12_worthOf_16 rfl (lv_at hl 1 rfl) ?_
      obtain ⟨g1, hR⟩ := ck_e hR
      refine ialT (n := 5) rfl (by decide) X w rfl g1 dX12_worthOf_17 ?_
      refine lv_iadd hx hb dX12_worthOf_18 ?_
      refine lv_icmp_ge (tgt := 81) hx hb dX12_worthOf_19 (by decide) (fun c2 => ?_) (fun c2 => ?_)
      · rw [if_pos c2] at hR
        refine lv_iconst (v := 0) hx hb dX12_worthOf_81 (by decide) ?_
        rw [hQ]
        exact rt_i X hr hlk w hsz rfl rfl (lf2 hR).1 (lf2 hR).2 dX12_worthOf_82
      · rw [if_neg c2] at hR
        refine lv_aload_n hx hb dX12_worthOf_22 rfl (lv_at hl 0 rfl) ?_
        refine gX12_testFrom X w lfX12_25 dX12_worthOf_23 ?_
        refine lv_iload_n hx hb dX12_worthOf_26 rfl (lv_at hl 2 rfl) ?_
        obtain ⟨g3, hR⟩ := ck_e hR
        refine ialT (n := 700) rfl (by decide) X w rfl g3 dX12_worthOf_27 ?_
        refine lv_aload_n hx hb dX12_worthOf_28 rfl (lv_at hl 0 rfl) ?_
        refine gX12_sumFrom X w lfX12_28 dX12_worthOf_29 ?_
        refine lv_iload_n hx hb dX12_worthOf_32 rfl (lv_at hl 2 rfl) ?_
        obtain ⟨g4, hR⟩ := ck_e hR
        refine ialT (n := 700) rfl (by decide) X w rfl g4 dX12_worthOf_33 ?_
        refine lv_icmp_eq (tgt := 57) hx hb dX12_worthOf_34 (by decide) (fun c5 => ?_) (fun c5 => ?_)
        · rw [if_pos c5] at hR
          exact J57 x1 x2 T hR _ _ _ w (lv_sub hl [0, 1, 2] rfl)
        · rw [if_neg c5] at hR
          refine lv_aload_n hx hb dX12_worthOf_37 rfl (lv_at hl 0 rfl) ?_
          refine lv_iload_n hx hb dX12_worthOf_38 rfl (lv_at hl 1 rfl) ?_
          refine lv_aload_n hx hb dX12_worthOf_39 rfl (lv_at hl 0 rfl) ?_
          refine gX12_testFrom X w lfX12_25 dX12_worthOf_40 ?_
          refine lv_iload_n hx hb dX12_worthOf_43 rfl (lv_at hl 2 rfl) ?_
          obtain ⟨g6, hR⟩ := ck_e hR
          refine ialT (n := 700) rfl (by decide) X w rfl g6 dX12_worthOf_44 ?_
          refine lv_aload_n hx hb dX12_worthOf_45 rfl (lv_at hl 0 rfl) ?_
          refine gX12_sumFrom X w lfX12_28 dX12_worthOf_46 ?_
          refine lv_iload_n hx hb dX12_worthOf_49 rfl (lv_at hl 2 rfl) ?_
          obtain ⟨g7, hR⟩ := ck_e hR
          refine ialT (n := 700) rfl (by decide) X w rfl g7 dX12_worthOf_50 ?_
          obtain ⟨T10, r9, h8, hR⟩ := b2_e hR
          refine cVi (k := 52) (As := [.int x1, .int (ga T 58 x2), .int (ga T 59 x2)]) (rest := []) X hl.1 w okX12_workOut obX12 rfl lmX12_204 (kX12_workOut h8) ⟨Nat.le_of_ble_eq_true rfl, Nat.le_of_ble_eq_true rfl⟩ ⟨rfl, rfl⟩ ⟨Nat.zero_le _, Nat.zero_le _⟩ rfl rfl (Nat.le_of_ble_eq_true rfl) dX12_worthOf_51 (fun H locs zr9 w => ?_)
          refine lv_if_eq (tgt := 75) hx hb dX12_worthOf_54 (by decide) (fun c11 => ?_) (fun c11 => ?_)
          · rw [if_pos c11] at hR
            obtain ⟨v12, ev12, hR⟩ := lt_e hR
            refine lv_iinc (v := v12) (lv' := [(2, .int v12), (0, .ref (ad 52)), (1, .int x1)]) hx hb dX12_worthOf_75 hl (k := 2) rfl (by rw [ev12]; rfl) (by decide) rfl (fun ls hl => ?_)
            refine lv_goto (tgt := 6) hx hb dX12_worthOf_78 (by decide) ?_
            exact ih x1 v12 T10 hR _ _ _ w (lv_sub hl [1, 2, 0] rfl)
          · rw [if_neg c11] at hR
            exact J57 x1 x2 T10 hR _ _ _ w (lv_sub hl [0, 1, 2] rfl)
  have hl : lv_has ls 3 [(0, .ref (ad 52)), (1, .int p1)] := hl
  unfold fX12_worthOf at hR
  refine lv_sipush (v := 140) hx hb dX12_worthOf_0 (by decide) ?_
  refine lv_iload_n hx hb dX12_worthOf_3 rfl (lv_at hl 1 rfl) ?_
  refine lv_imul hx hb dX12_worthOf_4 ?_
  obtain ⟨v1, ev1, hR⟩ := lt_e hR
  refine nm_i ev1 ?_
  refine lv_istore_n (lv' := [(2, .int v1), (0, .ref (ad 52)), (1, .int p1)]) hx hb dX12_worthOf_5 rfl hl (by decide) rfl (fun ls hl => ?_)
  exact L6 N p1 v1 T hR _ _ _ w (lv_sub hl [1, 2, 0] rfl)
/- LooseEndsModel.number(II)I -/
def fX12_number_j67 (N : Nat) (x1 : Int32) (x2 : Int32) (x3 : Int32) (T : SS) : Option (SS × Int32) := bd (fX12_here N T) fun r2 =>
  bd (fX12_isDigit N r2) fun r4 =>
  if r4 = 0 then
  (bd (fX12_in N x3 x1 x2) fun r7 =>
  if r7 = 0 then
  (lt (pj T 52 3 ((gi T 52 3) - 1)) fun T9 =>
  bd (fX12_bad N T9) fun T11 =>
  some (T11, x3))
  else
  (some (T, x3)))
  else
  (bd (fX12_bad N T) fun T13 =>
  some (T13, x3))
def fX12_number (N : Nat) (T : SS) (p1 : Int32) (p2 : Int32) : Option (SS × Int32) := b2 (fX12_look N T) fun T3 r2 =>
  bd (fX12_isDigit N r2) fun r5 =>
  if r5 = 0 then
  (bd (fX12_bad N T3) fun T21 =>
  some (T21, p1))
  else
  (bd (fX12_here N T3) fun r8 =>
  lt (r8 - 48) fun v9 =>
  lt (pj T3 52 3 ((gi T3 52 3) + 1)) fun T10 =>
  bd (fX12_here N T10) fun r12 =>
  bd (fX12_isDigit N r12) fun r14 =>
  if r14 = 0 then
  (fX12_number_j67 N p1 p2 v9 T10)
  else
  (bd (fX12_here N T10) fun r17 =>
  lt (((10 * v9) + r17) - 48) fun v18 =>
  lt (pj T10 52 3 ((gi T10 52 3) + 1)) fun T19 =>
  fX12_number_j67 N p1 p2 v18 T19))
set_option maxHeartbeats 4000000 in
set_option maxRecDepth 100000 in
theorem kX12_number {l : Launch} {D : va_G} {dA : Nat → ClassId} {ad : Nat → Nat} {t1 t2 : Nat} {N : Nat} {S T : SS} {o : Nat → Int64} {p1 : Int32} {p2 : Int32} {r : Int32} {T' : SS} (hR : fX12_number N T p1 p2 = some (T', r)) : KI l D dA ad t1 t2 yX12_number cX12_number 4 .int { frames := 2, cells := 0, slots := 0, locals := 40 } [.ref (ad 52), .int p1, .int p2] S T o r S T' := by
  intro sz
  refine en_ (plainFor_of_name (by decide)) (Nat.le_of_ble_eq_true rfl) ?_
  intro p ev s m args below meth c QQ hQ hsz X hr hlk w ls hl
  have hx := X.1
  have hb := X.2.1
  have J67 : ∀ (x1 : Int32) (x2 : Int32) (x3 : Int32) (T : SS), fX12_number_j67 N x1 x2 x3 T = some (T', r) → WAT p l ev ({ frames := 2, cells := 0, slots := 0, locals := 40 } : Room) s m args below meth c QQ 4 D dA ad t1 t2 S T o 67 [(0, .ref (ad 52)), (1, .int x1), (2, .int x2), (3, .int x3)] [] := by
    intro x1 x2 x3 T hR H locs ls w hl
    unfold fX12_number_j67 at hR
    refine lv_aload_n hx hb dX12_number_67 rfl (lv_at hl 0 rfl) ?_
    obtain ⟨r2, h1, hR⟩ := bd_e hR
    refine cVi (k := 52) (As := []) (rest := []) X hl.1 w okX12_here obX12 rfl lmX12_106 (kX12_here h1) ⟨Nat.le_of_ble_eq_true rfl, Nat.le_of_ble_eq_true rfl⟩ ⟨rfl, rfl⟩ ⟨Nat.zero_le _, Nat.zero_le _⟩ rfl rfl (Nat.le_of_ble_eq_true rfl) dX12_number_68 (fun H locs zr2 w => ?_)
    obtain ⟨r4, h3, hR⟩ := bd_e hR
    refine cSi (As := [.int r2]) (rest := []) X hl.1 w okX12_isDigit lmX12_125 (kX12_isDigit h3) ⟨Nat.le_of_ble_eq_true rfl, Nat.le_of_ble_eq_true rfl⟩ ⟨rfl, rfl⟩ ⟨Nat.zero_le _, Nat.zero_le _⟩ rfl rfl (Nat.le_of_ble_eq_true rfl) dX12_number_71 (fun H locs zr4 w => ?_)
    refine lv_if_eq (tgt := 84) hx hb dX12_number_74 (by decide) (fun c5 => ?_) (fun c5 => ?_)
    · rw [if_pos c5] at hR
      refine lv_iload_n hx hb dX12_number_84 rfl (lv_at hl 3 rfl) ?_
      refine lv_iload_n hx hb dX12_number_85 rfl (lv_at hl 1 rfl) ?_
      refine lv_iload_n hx hb dX12_number_86 rfl (lv_at hl 2 rfl) ?_
      obtain ⟨r7, h6, hR⟩ := bd_e hR
      refine cSi (As := [.int x3, .int x1, .int x2]) (rest := []) X hl.1 w okX12_in lmX12_208 (kX12_in h6) ⟨Nat.le_of_ble_eq_true rfl, Nat.le_of_ble_eq_true rfl⟩ ⟨rfl, rfl⟩ ⟨Nat.zero_le _, Nat.zero_le _⟩ rfl rfl (Nat.le_of_ble_eq_true rfl) dX12_number_87 (fun H locs zr7 w => ?_)
      refine lv_if_ne (tgt := 107) hx hb dX12_number_90 (by decide) (fun c8 => ?_) (fun c8 => ?_)
      · rw [if_neg c8] at hR
        refine lv_iload_n hx hb dX12_number_107 rfl (lv_at hl 3 rfl) ?_
        rw [hQ]
        exact rt_i X hr hlk w hsz rfl rfl (lf2 hR).1 (lf2 hR).2 dX12_number_108
      · rw [if_pos c8] at hR
        refine lv_aload_n hx hb dX12_number_93 rfl (lv_at hl 0 rfl) ?_
        refine lv_dup hx hb dX12_number_94 rfl ?_
        refine gX12_at X w lfX12_103 dX12_number_95 ?_
        refine lv_iconst (v := 1) hx hb dX12_number_98 (by decide) ?_
        refine lv_isub hx hb dX12_number_99 ?_
        obtain ⟨T9, eT9, hR⟩ := lt_e hR
        refine pX12_at X w lfX12_103 dX12_number_100 (fun H locs w => ?_)
        rw [← eT9] at w
        refine lv_aload_n hx hb dX12_number_103 rfl (lv_at hl 0 rfl) ?_
        obtain ⟨T11, h10, hR⟩ := bd_e hR
        refine cVv (k := 52) (As := []) (rest := []) X hl.1 w okX12_bad obX12 rfl lmX12_119 (kX12_bad h10) ⟨Nat.le_of_ble_eq_true rfl, Nat.le_of_ble_eq_true rfl⟩ ⟨rfl, rfl⟩ ⟨Nat.zero_le _, Nat.zero_le _⟩ rfl rfl (Nat.le_of_ble_eq_true rfl) dX12_number_104 (fun H locs w => ?_)
        refine lv_iload_n hx hb dX12_number_107 rfl (lv_at hl 3 rfl) ?_
        rw [hQ]
        exact rt_i X hr hlk w hsz rfl rfl (lf2 hR).1 (lf2 hR).2 dX12_number_108
    · rw [if_neg c5] at hR
      refine lv_aload_n hx hb dX12_number_77 rfl (lv_at hl 0 rfl) ?_
      obtain ⟨T13, h12, hR⟩ := bd_e hR
      refine cVv (k := 52) (As := []) (rest := []) X hl.1 w okX12_bad obX12 rfl lmX12_119 (kX12_bad h12) ⟨Nat.le_of_ble_eq_true rfl, Nat.le_of_ble_eq_true rfl⟩ ⟨rfl, rfl⟩ ⟨Nat.zero_le _, Nat.zero_le _⟩ rfl rfl (Nat.le_of_ble_eq_true rfl) dX12_number_78 (fun H locs w => ?_)
      refine lv_goto (tgt := 107) hx hb dX12_number_81 (by decide) ?_
      refine lv_iload_n hx hb dX12_number_107 rfl (lv_at hl 3 rfl) ?_
      rw [hQ]
      exact rt_i X hr hlk w hsz rfl rfl (lf2 hR).1 (lf2 hR).2 dX12_number_108
  have hl : lv_has ls 4 [(0, .ref (ad 52)), (1, .int p1), (2, .int p2)] := hl
  unfold fX12_number at hR
  refine lv_aload_n hx hb dX12_number_0 rfl (lv_at hl 0 rfl) ?_
  obtain ⟨T3, r2, h1, hR⟩ := b2_e hR
  refine cVi (k := 52) (As := []) (rest := []) X hl.1 w okX12_look obX12 rfl lmX12_122 (kX12_look h1) ⟨Nat.le_of_ble_eq_true rfl, Nat.le_of_ble_eq_true rfl⟩ ⟨rfl, rfl⟩ ⟨Nat.zero_le _, Nat.zero_le _⟩ rfl rfl (Nat.le_of_ble_eq_true rfl) dX12_number_1 (fun H locs zr2 w => ?_)
  obtain ⟨r5, h4, hR⟩ := bd_e hR
  refine cSi (As := [.int r2]) (rest := []) X hl.1 w okX12_isDigit lmX12_125 (kX12_isDigit h4) ⟨Nat.le_of_ble_eq_true rfl, Nat.le_of_ble_eq_true rfl⟩ ⟨rfl, rfl⟩ ⟨Nat.zero_le _, Nat.zero_le _⟩ rfl rfl (Nat.le_of_ble_eq_true rfl) dX12_number_4 (fun H locs zr5 w => ?_)
  refine lv_if_ne (tgt := 16) hx hb dX12_number_7 (by decide) (fun c6 => ?_) (fun c6 => ?_)
  · rw [if_neg c6] at hR
    refine lv_aload_n hx hb dX12_number_16 rfl (lv_at hl 0 rfl) ?_
    obtain ⟨r8, h7, hR⟩ := bd_e hR
    refine cVi (k := 52) (As := []) (rest := []) X hl.1 w okX12_here obX12 rfl lmX12_106 (kX12_here h7) ⟨Nat.le_of_ble_eq_true rfl, Nat.le_of_ble_eq_true rfl⟩ ⟨rfl, rfl⟩ ⟨Nat.zero_le _, Nat.zero_le _⟩ rfl rfl (Nat.le_of_ble_eq_true rfl) dX12_number_17 (fun H locs zr8 w => ?_)
    refine lv_bipush (v := 48) hx hb dX12_number_20 (by decide) ?_
    refine lv_isub hx hb dX12_number_22 ?_
    obtain ⟨v9, ev9, hR⟩ := lt_e hR
    refine nm_i ev9 ?_
    refine lv_istore_n (lv' := [(3, .int v9), (0, .ref (ad 52)), (1, .int p1), (2, .int p2)]) hx hb dX12_number_23 rfl hl (by decide) rfl (fun ls hl => ?_)
    refine lv_aload_n hx hb dX12_number_24 rfl (lv_at hl 1 rfl) ?_
    refine lv_dup hx hb dX12_number_25 rfl ?_
    refine gX12_at X w lfX12_103 dX12_number_26 ?_
    refine lv_iconst (v := 1) hx hb dX12_number_29 (by decide) ?_
    refine lv_iadd hx hb dX12_number_30 ?_
    obtain ⟨T10, eT10, hR⟩ := lt_e hR
    refine pX12_at X w lfX12_103 dX12_number_31 (fun H locs w => ?_)
    rw [← eT10] at w
    refine lv_aload_n hx hb dX12_number_34 rfl (lv_at hl 1 rfl) ?_
    obtain ⟨r12, h11, hR⟩ := bd_e hR
    refine cVi (k := 52) (As := []) (rest := []) X hl.1 w okX12_here obX12 rfl lmX12_106 (kX12_here h11) ⟨Nat.le_of_ble_eq_true rfl, Nat.le_of_ble_eq_true rfl⟩ ⟨rfl, rfl⟩ ⟨Nat.zero_le _, Nat.zero_le _⟩ rfl rfl (Nat.le_of_ble_eq_true rfl) dX12_number_35 (fun H locs zr12 w => ?_)
    obtain ⟨r14, h13, hR⟩ := bd_e hR
    refine cSi (As := [.int r12]) (rest := []) X hl.1 w okX12_isDigit lmX12_125 (kX12_isDigit h13) ⟨Nat.le_of_ble_eq_true rfl, Nat.le_of_ble_eq_true rfl⟩ ⟨rfl, rfl⟩ ⟨Nat.zero_le _, Nat.zero_le _⟩ rfl rfl (Nat.le_of_ble_eq_true rfl) dX12_number_38 (fun H locs zr14 w => ?_)
    refine lv_if_eq (tgt := 67) hx hb dX12_number_41 (by decide) (fun c15 => ?_) (fun c15 => ?_)
    · rw [if_pos c15] at hR
      exact J67 p1 p2 v9 T10 hR _ _ _ w (lv_sub hl [1, 2, 3, 0] rfl)
    · rw [if_neg c15] at hR
      refine lv_bipush (v := 10) hx hb dX12_number_44 (by decide) ?_
      refine lv_iload_n hx hb dX12_number_46 rfl (lv_at hl 0 rfl) ?_
      refine lv_imul hx hb dX12_number_47 ?_
      refine lv_aload_n hx hb dX12_number_48 rfl (lv_at hl 1 rfl) ?_
      obtain ⟨r17, h16, hR⟩ := bd_e hR
      refine cVi (k := 52) (As := []) (rest := [.int (10 * v9)]) X hl.1 w okX12_here obX12 rfl lmX12_106 (kX12_here h16) ⟨Nat.le_of_ble_eq_true rfl, Nat.le_of_ble_eq_true rfl⟩ ⟨rfl, rfl⟩ ⟨Nat.zero_le _, Nat.zero_le _⟩ rfl rfl (Nat.le_of_ble_eq_true rfl) dX12_number_49 (fun H locs zr17 w => ?_)
      refine lv_iadd hx hb dX12_number_52 ?_
      refine lv_bipush (v := 48) hx hb dX12_number_53 (by decide) ?_
      refine lv_isub hx hb dX12_number_55 ?_
      obtain ⟨v18, ev18, hR⟩ := lt_e hR
      refine nm_i ev18 ?_
      refine lv_istore_n (lv' := [(3, .int v18), (0, .ref (ad 52)), (1, .int p1), (2, .int p2)]) hx hb dX12_number_56 rfl hl (by decide) rfl (fun ls hl => ?_)
      refine lv_aload_n hx hb dX12_number_57 rfl (lv_at hl 1 rfl) ?_
      refine lv_dup hx hb dX12_number_58 rfl ?_
      refine gX12_at X w lfX12_103 dX12_number_59 ?_
      refine lv_iconst (v := 1) hx hb dX12_number_62 (by decide) ?_
      refine lv_iadd hx hb dX12_number_63 ?_
      obtain ⟨T19, eT19, hR⟩ := lt_e hR
      refine pX12_at X w lfX12_103 dX12_number_64 (fun H locs w => ?_)
      rw [← eT19] at w
      exact J67 p1 p2 v18 T19 hR _ _ _ w (lv_sub hl [1, 2, 3, 0] rfl)
  · rw [if_pos c6] at hR
    refine lv_aload_n hx hb dX12_number_10 rfl (lv_at hl 0 rfl) ?_
    obtain ⟨T21, h20, hR⟩ := bd_e hR
    refine cVv (k := 52) (As := []) (rest := []) X hl.1 w okX12_bad obX12 rfl lmX12_119 (kX12_bad h20) ⟨Nat.le_of_ble_eq_true rfl, Nat.le_of_ble_eq_true rfl⟩ ⟨rfl, rfl⟩ ⟨Nat.zero_le _, Nat.zero_le _⟩ rfl rfl (Nat.le_of_ble_eq_true rfl) dX12_number_11 (fun H locs w => ?_)
    refine lv_iload_n hx hb dX12_number_14 rfl (lv_at hl 1 rfl) ?_
    rw [hQ]
    exact rt_i X hr hlk w hsz rfl rfl (lf2 hR).1 (lf2 hR).2 dX12_number_15
/- LooseEndsModel.itemOf(II)I -/
def fX12_itemOf (N : Nat) (p0 : Int32) (p1 : Int32) : Option (Int32) := if p0 = 115 then
  (if p1 = 101 then
  (some 0)
  else
  (if p1 = 102 then
  (some 1)
  else
  (if p1 = 103 then
  (some 2)
  else
  (if p1 = 107 then
  (some 3)
  else
  (some (-1))))))
  else
  (if p1 = 99 then
  (some 0)
  else
  (if p1 = 112 then
  (some 1)
  else
  (if p1 = 108 then
  (some 2)
  else
  (some (-1)))))
set_option maxHeartbeats 4000000 in
set_option maxRecDepth 100000 in
theorem kX12_itemOf {l : Launch} {D : va_G} {dA : Nat → ClassId} {ad : Nat → Nat} {t1 t2 : Nat} {N : Nat} {S T : SS} {o : Nat → Int64} {p0 : Int32} {p1 : Int32} {r : Int32} (hR : fX12_itemOf N p0 p1 = some r) : KI l D dA ad t1 t2 yX12_itemOf cX12_itemOf 2 .int { frames := 0, cells := 0, slots := 0, locals := 0 } [.int p0, .int p1] S T o r S T := by
  intro sz
  refine en_ (plainFor_of_name (by decide)) (Nat.le_of_ble_eq_true rfl) ?_
  intro p ev s m args below meth c QQ hQ hsz X hr hlk w ls hl
  have hx := X.1
  have hb := X.2.1
  have hl : lv_has ls 2 [(0, .int p0), (1, .int p1)] := hl
  unfold fX12_itemOf at hR
  refine lv_iload_n hx hb dX12_itemOf_0 rfl (lv_at hl 0 rfl) ?_
  refine lv_bipush (v := 115) hx hb dX12_itemOf_1 (by decide) ?_
  refine lv_icmp_ne (tgt := 48) hx hb dX12_itemOf_3 (by decide) (fun c1 => ?_) (fun c1 => ?_)
  · rw [if_neg c1] at hR
    refine lv_iload_n hx hb dX12_itemOf_48 rfl (lv_at hl 1 rfl) ?_
    refine lv_bipush (v := 99) hx hb dX12_itemOf_49 (by decide) ?_
    refine lv_icmp_ne (tgt := 58) hx hb dX12_itemOf_51 (by decide) (fun c2 => ?_) (fun c2 => ?_)
    · rw [if_neg c2] at hR
      refine lv_iload_n hx hb dX12_itemOf_58 rfl (lv_at hl 1 rfl) ?_
      refine lv_bipush (v := 112) hx hb dX12_itemOf_59 (by decide) ?_
      refine lv_icmp_ne (tgt := 68) hx hb dX12_itemOf_61 (by decide) (fun c3 => ?_) (fun c3 => ?_)
      · rw [if_neg c3] at hR
        refine lv_iload_n hx hb dX12_itemOf_68 rfl (lv_at hl 1 rfl) ?_
        refine lv_bipush (v := 108) hx hb dX12_itemOf_69 (by decide) ?_
        refine lv_icmp_ne (tgt := 78) hx hb dX12_itemOf_71 (by decide) (fun c4 => ?_) (fun c4 => ?_)
        · rw [if_neg c4] at hR
          refine lv_iconst (v := -1) hx hb dX12_itemOf_78 (by decide) ?_
          rw [hQ]
          exact rt_i X hr hlk w hsz rfl rfl rfl (lf1 hR) dX12_itemOf_79
        · rw [if_pos c4] at hR
          refine lv_iconst (v := 2) hx hb dX12_itemOf_74 (by decide) ?_
          refine lv_goto (tgt := 79) hx hb dX12_itemOf_75 (by decide) ?_
          rw [hQ]
          exact rt_i X hr hlk w hsz rfl rfl rfl (lf1 hR) dX12_itemOf_79
      · rw [if_pos c3] at hR
        refine lv_iconst (v := 1) hx hb dX12_itemOf_64 (by decide) ?_
        refine lv_goto (tgt := 79) hx hb dX12_itemOf_65 (by decide) ?_
        rw [hQ]
        exact rt_i X hr hlk w hsz rfl rfl rfl (lf1 hR) dX12_itemOf_79
    · rw [if_pos c2] at hR
      refine lv_iconst (v := 0) hx hb dX12_itemOf_54 (by decide) ?_
      refine lv_goto (tgt := 79) hx hb dX12_itemOf_55 (by decide) ?_
      rw [hQ]
      exact rt_i X hr hlk w hsz rfl rfl rfl (lf1 hR) dX12_itemOf_79
  · rw [if_pos c1] at hR
    refine lv_iload_n hx hb dX12_itemOf_6 rfl (lv_at hl 1 rfl) ?_
    refine lv_bipush (v := 101) hx hb dX12_itemOf_7 (by decide) ?_
    refine lv_icmp_ne (tgt := 16) hx hb dX12_itemOf_9 (by decide) (fun c5 => ?_) (fun c5 => ?_)
    · rw [if_neg c5] at hR
      refine lv_iload_n hx hb dX12_itemOf_16 rfl (lv_at hl 1 rfl) ?_
      refine lv_bipush (v := 102) hx hb dX12_itemOf_17 (by decide) ?_
      refine lv_icmp_ne (tgt := 26) hx hb dX12_itemOf_19 (by decide) (fun c6 => ?_) (fun c6 => ?_)
      · rw [if_neg c6] at hR
        refine lv_iload_n hx hb dX12_itemOf_26 rfl (lv_at hl 1 rfl) ?_
        refine lv_bipush (v := 103) hx hb dX12_itemOf_27 (by decide) ?_
        refine lv_icmp_ne (tgt := 36) hx hb dX12_itemOf_29 (by decide) (fun c7 => ?_) (fun c7 => ?_)
        · rw [if_neg c7] at hR
          refine lv_iload_n hx hb dX12_itemOf_36 rfl (lv_at hl 1 rfl) ?_
          refine lv_bipush (v := 107) hx hb dX12_itemOf_37 (by decide) ?_
          refine lv_icmp_ne (tgt := 46) hx hb dX12_itemOf_39 (by decide) (fun c8 => ?_) (fun c8 => ?_)
          · rw [if_neg c8] at hR
            refine lv_iconst (v := -1) hx hb dX12_itemOf_46 (by decide) ?_
            rw [hQ]
            exact rt_i X hr hlk w hsz rfl rfl rfl (lf1 hR) dX12_itemOf_47
          · rw [if_pos c8] at hR
            refine lv_iconst (v := 3) hx hb dX12_itemOf_42 (by decide) ?_
            refine lv_goto (tgt := 47) hx hb dX12_itemOf_43 (by decide) ?_
            rw [hQ]
            exact rt_i X hr hlk w hsz rfl rfl rfl (lf1 hR) dX12_itemOf_47
        · rw [if_pos c7] at hR
          refine lv_iconst (v := 2) hx hb dX12_itemOf_32 (by decide) ?_
          refine lv_goto (tgt := 47) hx hb dX12_itemOf_33 (by decide) ?_
          rw [hQ]
          exact rt_i X hr hlk w hsz rfl rfl rfl (lf1 hR) dX12_itemOf_47
      · rw [if_pos c6] at hR
        refine lv_iconst (v := 1) hx hb dX12_itemOf_22 (by decide) ?_
        refine lv_goto (tgt := 47) hx hb dX12_itemOf_23 (by decide) ?_
        rw [hQ]
        exact rt_i X hr hlk w hsz rfl rfl rfl (lf1 hR) dX12_itemOf_47
    · rw [if_pos c5] at hR
      refine lv_iconst (v := 0) hx hb dX12_itemOf_12 (by decide) ?_
      refine lv_goto (tgt := 47) hx hb dX12_itemOf_13 (by decide) ?_
      rw [hQ]
      exact rt_i X hr hlk w hsz rfl rfl rfl (lf1 hR) dX12_itemOf_47
/- LooseEndsModel.lowest(II)I -/
def fX12_lowest (N : Nat) (p0 : Int32) (p1 : Int32) : Option (Int32) := if p0 = 115 then
  (if p1 = 2 then
  (some 1)
  else
  (some 0))
  else
  (if p1 = 0 then
  (some 0)
  else
  (some 1))
set_option maxHeartbeats 4000000 in
set_option maxRecDepth 100000 in
theorem kX12_lowest {l : Launch} {D : va_G} {dA : Nat → ClassId} {ad : Nat → Nat} {t1 t2 : Nat} {N : Nat} {S T : SS} {o : Nat → Int64} {p0 : Int32} {p1 : Int32} {r : Int32} (hR : fX12_lowest N p0 p1 = some r) : KI l D dA ad t1 t2 yX12_lowest cX12_lowest 2 .int { frames := 0, cells := 0, slots := 0, locals := 0 } [.int p0, .int p1] S T o r S T := by
  intro sz
  refine en_ (plainFor_of_name (by decide)) (Nat.le_of_ble_eq_true rfl) ?_
  intro p ev s m args below meth c QQ hQ hsz X hr hlk w ls hl
  have hx := X.1
  have hb := X.2.1
  have hl : lv_has ls 2 [(0, .int p0), (1, .int p1)] := hl
  unfold fX12_lowest at hR
  refine lv_iload_n hx hb dX12_lowest_0 rfl (lv_at hl 0 rfl) ?_
  refine lv_bipush (v := 115) hx hb dX12_lowest_1 (by decide) ?_
  refine lv_icmp_ne (tgt := 19) hx hb dX12_lowest_3 (by decide) (fun c1 => ?_) (fun c1 => ?_)
  · rw [if_neg c1] at hR
    refine lv_iload_n hx hb dX12_lowest_19 rfl (lv_at hl 1 rfl) ?_
    refine lv_if_ne (tgt := 27) hx hb dX12_lowest_20 (by decide) (fun c2 => ?_) (fun c2 => ?_)
    · rw [if_neg c2] at hR
      refine lv_iconst (v := 1) hx hb dX12_lowest_27 (by decide) ?_
      rw [hQ]
      exact rt_i X hr hlk w hsz rfl rfl rfl (lf1 hR) dX12_lowest_28
    · rw [if_pos c2] at hR
      refine lv_iconst (v := 0) hx hb dX12_lowest_23 (by decide) ?_
      refine lv_goto (tgt := 28) hx hb dX12_lowest_24 (by decide) ?_
      rw [hQ]
      exact rt_i X hr hlk w hsz rfl rfl rfl (lf1 hR) dX12_lowest_28
  · rw [if_pos c1] at hR
    refine lv_iload_n hx hb dX12_lowest_6 rfl (lv_at hl 1 rfl) ?_
    refine lv_iconst (v := 2) hx hb dX12_lowest_7 (by decide) ?_
    refine lv_icmp_ne (tgt := 15) hx hb dX12_lowest_8 (by decide) (fun c3 => ?_) (fun c3 => ?_)
    · rw [if_neg c3] at hR
      refine lv_iconst (v := 0) hx hb dX12_lowest_15 (by decide) ?_
      refine lv_goto (tgt := 28) hx hb dX12_lowest_16 (by decide) ?_
      rw [hQ]
      exact rt_i X hr hlk w hsz rfl rfl rfl (lf1 hR) dX12_lowest_28
    · rw [if_pos c3] at hR
      refine lv_iconst (v := 1) hx hb dX12_lowest_11 (by decide) ?_
      refine lv_goto (tgt := 28) hx hb dX12_lowest_12 (by decide) ?_
      rw [hQ]
      exact rt_i X hr hlk w hsz rfl rfl rfl (lf1 hR) dX12_lowest_28
/- LooseEndsModel.highest(II)I -/
def fX12_highest (N : Nat) (p0 : Int32) (p1 : Int32) : Option (Int32) := if p0 = 115 then
  (if p1 = 3 then
  (some 99)
  else
  (some 9))
  else
  (if p1 = 1 then
  (some 6)
  else
  (some 20))
set_option maxHeartbeats 4000000 in
set_option maxRecDepth 100000 in
theorem kX12_highest {l : Launch} {D : va_G} {dA : Nat → ClassId} {ad : Nat → Nat} {t1 t2 : Nat} {N : Nat} {S T : SS} {o : Nat → Int64} {p0 : Int32} {p1 : Int32} {r : Int32} (hR : fX12_highest N p0 p1 = some r) : KI l D dA ad t1 t2 yX12_highest cX12_highest 2 .int { frames := 0, cells := 0, slots := 0, locals := 0 } [.int p0, .int p1] S T o r S T := by
  intro sz
  refine en_ (plainFor_of_name (by decide)) (Nat.le_of_ble_eq_true rfl) ?_
  intro p ev s m args below meth c QQ hQ hsz X hr hlk w ls hl
  have hx := X.1
  have hb := X.2.1
  have hl : lv_has ls 2 [(0, .int p0), (1, .int p1)] := hl
  unfold fX12_highest at hR
  refine lv_iload_n hx hb dX12_highest_0 rfl (lv_at hl 0 rfl) ?_
  refine lv_bipush (v := 115) hx hb dX12_highest_1 (by decide) ?_
  refine lv_icmp_ne (tgt := 19) hx hb dX12_highest_3 (by decide) (fun c1 => ?_) (fun c1 => ?_)
  · rw [if_neg c1] at hR
    refine lv_iload_n hx hb dX12_highest_19 rfl (lv_at hl 1 rfl) ?_
    refine lv_iconst (v := 1) hx hb dX12_highest_20 (by decide) ?_
    refine lv_icmp_ne (tgt := 29) hx hb dX12_highest_21 (by decide) (fun c2 => ?_) (fun c2 => ?_)
    · rw [if_neg c2] at hR
      refine lv_bipush (v := 20) hx hb dX12_highest_29 (by decide) ?_
      rw [hQ]
      exact rt_i X hr hlk w hsz rfl rfl rfl (lf1 hR) dX12_highest_31
    · rw [if_pos c2] at hR
      refine lv_bipush (v := 6) hx hb dX12_highest_24 (by decide) ?_
      refine lv_goto (tgt := 31) hx hb dX12_highest_26 (by decide) ?_
      rw [hQ]
      exact rt_i X hr hlk w hsz rfl rfl rfl (lf1 hR) dX12_highest_31
  · rw [if_pos c1] at hR
    refine lv_iload_n hx hb dX12_highest_6 rfl (lv_at hl 1 rfl) ?_
    refine lv_iconst (v := 3) hx hb dX12_highest_7 (by decide) ?_
    refine lv_icmp_ne (tgt := 16) hx hb dX12_highest_8 (by decide) (fun c3 => ?_) (fun c3 => ?_)
    · rw [if_neg c3] at hR
      refine lv_bipush (v := 9) hx hb dX12_highest_16 (by decide) ?_
      rw [hQ]
      exact rt_i X hr hlk w hsz rfl rfl rfl (lf1 hR) dX12_highest_18
    · rw [if_pos c3] at hR
      refine lv_bipush (v := 99) hx hb dX12_highest_11 (by decide) ?_
      refine lv_goto (tgt := 18) hx hb dX12_highest_13 (by decide) ?_
      rw [hQ]
      exact rt_i X hr hlk w hsz rfl rfl rfl (lf1 hR) dX12_highest_18
/- LooseEndsModel.usual(II)I -/
def fX12_usual (N : Nat) (p0 : Int32) (p1 : Int32) : Option (Int32) := if p0 = 115 then
  (if p1 = 0 then
  (some 2)
  else
  (if p1 = 1 then
  (some 1)
  else
  (if p1 = 2 then
  (some 4)
  else
  (some 20))))
  else
  (if p1 = 0 then
  (some 10)
  else
  (if p1 = 1 then
  (some 2)
  else
  (some 5)))
set_option maxHeartbeats 4000000 in
set_option maxRecDepth 100000 in
theorem kX12_usual {l : Launch} {D : va_G} {dA : Nat → ClassId} {ad : Nat → Nat} {t1 t2 : Nat} {N : Nat} {S T : SS} {o : Nat → Int64} {p0 : Int32} {p1 : Int32} {r : Int32} (hR : fX12_usual N p0 p1 = some r) : KI l D dA ad t1 t2 yX12_usual cX12_usual 2 .int { frames := 0, cells := 0, slots := 0, locals := 0 } [.int p0, .int p1] S T o r S T := by
  intro sz
  refine en_ (plainFor_of_name (by decide)) (Nat.le_of_ble_eq_true rfl) ?_
  intro p ev s m args below meth c QQ hQ hsz X hr hlk w ls hl
  have hx := X.1
  have hb := X.2.1
  have hl : lv_has ls 2 [(0, .int p0), (1, .int p1)] := hl
  unfold fX12_usual at hR
  refine lv_iload_n hx hb dX12_usual_0 rfl (lv_at hl 0 rfl) ?_
  refine lv_bipush (v := 115) hx hb dX12_usual_1 (by decide) ?_
  refine lv_icmp_ne (tgt := 35) hx hb dX12_usual_3 (by decide) (fun c1 => ?_) (fun c1 => ?_)
  · rw [if_neg c1] at hR
    refine lv_iload_n hx hb dX12_usual_35 rfl (lv_at hl 1 rfl) ?_
    refine lv_if_ne (tgt := 44) hx hb dX12_usual_36 (by decide) (fun c2 => ?_) (fun c2 => ?_)
    · rw [if_neg c2] at hR
      refine lv_iload_n hx hb dX12_usual_44 rfl (lv_at hl 1 rfl) ?_
      refine lv_iconst (v := 1) hx hb dX12_usual_45 (by decide) ?_
      refine lv_icmp_ne (tgt := 53) hx hb dX12_usual_46 (by decide) (fun c3 => ?_) (fun c3 => ?_)
      · rw [if_neg c3] at hR
        refine lv_iconst (v := 5) hx hb dX12_usual_53 (by decide) ?_
        rw [hQ]
        exact rt_i X hr hlk w hsz rfl rfl rfl (lf1 hR) dX12_usual_54
      · rw [if_pos c3] at hR
        refine lv_iconst (v := 2) hx hb dX12_usual_49 (by decide) ?_
        refine lv_goto (tgt := 54) hx hb dX12_usual_50 (by decide) ?_
        rw [hQ]
        exact rt_i X hr hlk w hsz rfl rfl rfl (lf1 hR) dX12_usual_54
    · rw [if_pos c2] at hR
      refine lv_bipush (v := 10) hx hb dX12_usual_39 (by decide) ?_
      refine lv_goto (tgt := 54) hx hb dX12_usual_41 (by decide) ?_
      rw [hQ]
      exact rt_i X hr hlk w hsz rfl rfl rfl (lf1 hR) dX12_usual_54
  · rw [if_pos c1] at hR
    refine lv_iload_n hx hb dX12_usual_6 rfl (lv_at hl 1 rfl) ?_
    refine lv_if_ne (tgt := 14) hx hb dX12_usual_7 (by decide) (fun c4 => ?_) (fun c4 => ?_)
    · rw [if_neg c4] at hR
      refine lv_iload_n hx hb dX12_usual_14 rfl (lv_at hl 1 rfl) ?_
      refine lv_iconst (v := 1) hx hb dX12_usual_15 (by decide) ?_
      refine lv_icmp_ne (tgt := 23) hx hb dX12_usual_16 (by decide) (fun c5 => ?_) (fun c5 => ?_)
      · rw [if_neg c5] at hR
        refine lv_iload_n hx hb dX12_usual_23 rfl (lv_at hl 1 rfl) ?_
        refine lv_iconst (v := 2) hx hb dX12_usual_24 (by decide) ?_
        refine lv_icmp_ne (tgt := 32) hx hb dX12_usual_25 (by decide) (fun c6 => ?_) (fun c6 => ?_)
        · rw [if_neg c6] at hR
          refine lv_bipush (v := 20) hx hb dX12_usual_32 (by decide) ?_
          rw [hQ]
          exact rt_i X hr hlk w hsz rfl rfl rfl (lf1 hR) dX12_usual_34
        · rw [if_pos c6] at hR
          refine lv_iconst (v := 4) hx hb dX12_usual_28 (by decide) ?_
          refine lv_goto (tgt := 34) hx hb dX12_usual_29 (by decide) ?_
          rw [hQ]
          exact rt_i X hr hlk w hsz rfl rfl rfl (lf1 hR) dX12_usual_34
      · rw [if_pos c5] at hR
        refine lv_iconst (v := 1) hx hb dX12_usual_19 (by decide) ?_
        refine lv_goto (tgt := 34) hx hb dX12_usual_20 (by decide) ?_
        rw [hQ]
        exact rt_i X hr hlk w hsz rfl rfl rfl (lf1 hR) dX12_usual_34
    · rw [if_pos c4] at hR
      refine lv_iconst (v := 2) hx hb dX12_usual_10 (by decide) ?_
      refine lv_goto (tgt := 34) hx hb dX12_usual_11 (by decide) ?_
      rw [hQ]
      exact rt_i X hr hlk w hsz rfl rfl rfl (lf1 hR) dX12_usual_34
/- LooseEndsModel.items(I[III)V -/
def fX12_items_l41 (N : Nat) (q2 : Nat) : Nat → Int32 → Int32 → Int32 → Int32 → SS → Option (SS)
  | 0, _, _, _, _, _ => none
  | n + 1, x1, x3, x5, x6, T => if (gi T 52 4) = (-1) then
  (if x6 = (-1) then
  (some T)
  else
  (bd (fX12_has N x5 x6) fun r4 =>
  if r4 = 0 then
  (lt (x5 ||| (sl 1 x6)) fun v6 =>
  lt (pj T 52 3 ((gi T 52 3) + 1)) fun T7 =>
  bd (fX12_lowest N x1 x6) fun r9 =>
  bd (fX12_highest N x1 x6) fun r11 =>
  b2 (fX12_number N T7 r9 r11) fun T14 r13 =>
  ck (inb (x3 + x6) (aln (fun _ => 0) q2)) <|
  lt (pa T14 q2 (x3 + x6) r13) fun T16 =>
  if (gi T16 52 4) = (-1) then
  (b2 (fX12_look N T16) fun T21 r20 =>
  bd (fX12_itemOf N x1 r20) fun r23 =>
  fX12_items_l41 N q2 n x1 x3 v6 r23 T21)
  else
  (lt ((-1)) fun v18 =>
  fX12_items_l41 N q2 n x1 x3 v6 v18 T16))
  else
  (some T)))
  else
  (some T)
def fX12_items_l3 (N : Nat) (q2 : Nat) : Nat → Int32 → Int32 → Int32 → Int32 → SS → Option (SS)
  | 0, _, _, _, _, _ => none
  | n + 1, x1, x3, x4, x5, T => if x4 ≤ x5 then
  (b2 (fX12_look N T) fun T4 r3 =>
  bd (fX12_itemOf N x1 r3) fun r6 =>
  fX12_items_l41 N q2 N x1 x3 0 r6 T4)
  else
  (bd (fX12_usual N x1 x5) fun r8 =>
  ck (inb (x3 + x5) (aln (fun _ => 0) q2)) <|
  lt (pa T q2 (x3 + x5) r8) fun T10 =>
  lt (x5 + 1) fun v11 =>
  fX12_items_l3 N q2 n x1 x3 x4 v11 T10)
def fX12_items (N : Nat) (T : SS) (p1 : Int32) (q2 : Nat) (p3 : Int32) (p4 : Int32) : Option (SS) := fX12_items_l3 N q2 N p1 p3 p4 0 T
set_option maxHeartbeats 4000000 in
set_option maxRecDepth 100000 in
theorem kX12_items {l : Launch} {D : va_G} {dA : Nat → ClassId} {ad : Nat → Nat} {t1 t2 : Nat} {N : Nat} {q2 : Nat} (hq2 : q2 = 63 ∨ q2 = 64) {S T : SS} {o : Nat → Int64} {p1 : Int32} {p3 : Int32} {p4 : Int32} {T' : SS} (hR : fX12_items N T p1 q2 p3 p4 = some T') : KV l D dA ad t1 t2 yX12_items cX12_items 7 { frames := 3, cells := 0, slots := 0, locals := 63 } [.ref (ad 52), .int p1, .ref (ad q2), .int p3, .int p4] S T o S T' := by
  intro sz
  refine en_ (plainFor_of_name (by decide)) (Nat.le_of_ble_eq_true rfl) ?_
  intro p ev s m args below meth c QQ hQ hsz X hr hlk w ls hl
  have hx := X.1
  have hb := X.2.1
  have L41 : ∀ (n : Nat), ∀ (x1 : Int32) (x3 : Int32) (x5 : Int32) (x6 : Int32) (T : SS), fX12_items_l41 N q2 n x1 x3 x5 x6 T = some T' → WAT p l ev ({ frames := 3, cells := 0, slots := 0, locals := 63 } : Room) s m args below meth c QQ 7 D dA ad t1 t2 S T o 41 [(0, .ref (ad 52)), (1, .int x1), (2, .ref (ad q2)), (3, .int x3), (5, .int x5), (6, .int x6)] [] := by
    intro n
    induction n with
    | zero =>
      intro x1 x3 x5 x6 T hR
      exact nomatch hR
    | succ n ih =>
      intro x1 x3 x5 x6 T hR H locs ls w hl
      rw [fX12_items_l41] at hR
      refine lv_aload_n hx hb dX12_items_41 rfl (lv_at hl 0 rfl) ?_
      refine gX12_wrong X w lfX12_110 dX12_items_42 ?_
      refine lv_iconst (v := -1) hx hb dX12_items_45 (by decide) ?_
      refine lv_icmp_ne (tgt := 131) hx hb dX12_items_46 (by decide) (fun c1 => ?_) (fun c1 => ?_)
      · rw [if_neg c1] at hR
        rw [hQ]
        exact rt_v X hr hlk w hsz rfl (lf1 hR) dX12_items_131
      · rw [if_pos c1] at hR
        refine lv_iload hx hb dX12_items_49 (lv_at hl 5 rfl) ?_
        refine lv_iconst (v := -1) hx hb dX12_items_51 (by decide) ?_
        refine lv_icmp_eq (tgt := 131) hx hb dX12_items_52 (by decide) (fun c2 => ?_) (fun c2 => ?_)
        · rw [if_pos c2] at hR
          rw [hQ]
          exact rt_v X hr hlk w hsz rfl (lf1 hR) dX12_items_131
        · rw [if_neg c2] at hR
          refine lv_iload hx hb dX12_items_55 (lv_at hl 4 rfl) ?_
          refine lv_iload hx hb dX12_items_57 (lv_at hl 5 rfl) ?_
          obtain ⟨r4, h3, hR⟩ := bd_e hR
          refine cSi (As := [.int x5, .int x6]) (rest := []) X hl.1 w okX12_has lmX12_219 (kX12_has h3) ⟨Nat.le_of_ble_eq_true rfl, Nat.le_of_ble_eq_true rfl⟩ ⟨rfl, rfl⟩ ⟨Nat.zero_le _, Nat.zero_le _⟩ rfl rfl (Nat.le_of_ble_eq_true rfl) dX12_items_59 (fun H locs zr4 w => ?_)
          refine lv_if_ne (tgt := 131) hx hb dX12_items_62 (by decide) (fun c5 => ?_) (fun c5 => ?_)
          · rw [if_neg c5] at hR
            rw [hQ]
            exact rt_v X hr hlk w hsz rfl (lf1 hR) dX12_items_131
          · rw [if_pos c5] at hR
            refine lv_iload hx hb dX12_items_65 (lv_at hl 4 rfl) ?_
            refine lv_iconst (v := 1) hx hb dX12_items_67 (by decide) ?_
            refine lv_iload hx hb dX12_items_68 (lv_at hl 5 rfl) ?_
            refine lv_ishl hx hb dX12_items_70 ?_
            refine lv_ior hx hb dX12_items_71 ?_
            obtain ⟨v6, ev6, hR⟩ := lt_e hR
            refine nm_i ev6 ?_
            refine lv_istore (lv' := [(5, .int v6), (0, .ref (ad 52)), (1, .int x1), (2, .ref (ad q2)), (3, .int x3), (6, .int x6)]) hx hb dX12_items_72 hl (by decide) rfl (fun ls hl => ?_)
            refine lv_aload_n hx hb dX12_items_74 rfl (lv_at hl 1 rfl) ?_
            refine lv_dup hx hb dX12_items_75 rfl ?_
            refine gX12_at X w lfX12_103 dX12_items_76 ?_
            refine lv_iconst (v := 1) hx hb dX12_items_79 (by decide) ?_
            refine lv_iadd hx hb dX12_items_80 ?_
            obtain ⟨T7, eT7, hR⟩ := lt_e hR
            refine pX12_at X w lfX12_103 dX12_items_81 (fun H locs w => ?_)
            rw [← eT7] at w
            refine lv_aload_n hx hb dX12_items_84 rfl (lv_at hl 3 rfl) ?_
            refine lv_iload_n hx hb dX12_items_85 rfl (lv_at hl 4 rfl) ?_
            refine lv_iload hx hb dX12_items_86 (lv_at hl 5 rfl) ?_
            refine lv_iadd hx hb dX12_items_88 ?_
            refine lv_aload_n hx hb dX12_items_89 rfl (lv_at hl 1 rfl) ?_
            refine lv_iload_n hx hb dX12_items_90 rfl (lv_at hl 2 rfl) ?_
            refine lv_iload hx hb dX12_items_91 (lv_at hl 5 rfl) ?_
            obtain ⟨r9, h8, hR⟩ := bd_e hR
            refine cSi (As := [.int x1, .int x6]) (rest := [.ref (ad 52), .int (x3 + x6), .ref (ad q2)]) X hl.1 w okX12_lowest lmX12_223 (kX12_lowest h8) ⟨Nat.le_of_ble_eq_true rfl, Nat.le_of_ble_eq_true rfl⟩ ⟨rfl, rfl⟩ ⟨Nat.zero_le _, Nat.zero_le _⟩ rfl rfl (Nat.le_of_ble_eq_true rfl) dX12_items_93 (fun H locs zr9 w => ?_)
            refine lv_iload_n hx hb dX12_items_96 rfl (lv_at hl 2 rfl) ?_
            refine lv_iload hx hb dX12_items_97 (lv_at hl 5 rfl) ?_
            obtain ⟨r11, h10, hR⟩ := bd_e hR
            refine cSi (As := [.int x1, .int x6]) (rest := [.int r9, .ref (ad 52), .int (x3 + x6), .ref (ad q2)]) X hl.1 w okX12_highest lmX12_226 (kX12_highest h10) ⟨Nat.le_of_ble_eq_true rfl, Nat.le_of_ble_eq_true rfl⟩ ⟨rfl, rfl⟩ ⟨Nat.zero_le _, Nat.zero_le _⟩ rfl rfl (Nat.le_of_ble_eq_true rfl) dX12_items_99 (fun H locs zr11 w => ?_)
            obtain ⟨T14, r13, h12, hR⟩ := b2_e hR
            refine cVi (k := 52) (As := [.int r9, .int r11]) (rest := [.int (x3 + x6), .ref (ad q2)]) X hl.1 w okX12_number obX12 rfl lmX12_229 (kX12_number h12) ⟨Nat.le_of_ble_eq_true rfl, Nat.le_of_ble_eq_true rfl⟩ ⟨rfl, rfl⟩ ⟨Nat.zero_le _, Nat.zero_le _⟩ rfl rfl (Nat.le_of_ble_eq_true rfl) dX12_items_102 (fun H locs zr13 w => ?_)
            obtain ⟨g15, hR⟩ := ck_e hR
            obtain ⟨T16, eT16, hR⟩ := lt_e hR
            refine iasT (n := (aln (fun _ => 0) q2)) (ikM hq2) (lkM hq2) X w (nkM hq2) g15 dX12_items_105 (fun H locs w => ?_)
            rw [← eT16] at w
            refine lv_aload_n hx hb dX12_items_106 rfl (lv_at hl 1 rfl) ?_
            refine gX12_wrong X w lfX12_110 dX12_items_107 ?_
            refine lv_iconst (v := -1) hx hb dX12_items_110 (by decide) ?_
            refine lv_icmp_ne (tgt := 125) hx hb dX12_items_111 (by decide) (fun c17 => ?_) (fun c17 => ?_)
            · rw [if_neg c17] at hR
              refine lv_iconst (v := -1) hx hb dX12_items_125 (by decide) ?_
              obtain ⟨v18, ev18, hR⟩ := lt_e hR
              refine nm_i ev18 ?_
              refine lv_istore (lv' := [(6, .int v18), (5, .int v6), (0, .ref (ad 52)), (1, .int x1), (2, .ref (ad q2)), (3, .int x3)]) hx hb dX12_items_126 hl (by decide) rfl (fun ls hl => ?_)
              refine lv_goto (tgt := 41) hx hb dX12_items_128 (by decide) ?_
              exact ih x1 x3 v6 v18 T16 hR _ _ _ w (lv_sub hl [2, 3, 4, 5, 1, 0] rfl)
            · rw [if_pos c17] at hR
              refine lv_iload_n hx hb dX12_items_114 rfl (lv_at hl 2 rfl) ?_
              refine lv_aload_n hx hb dX12_items_115 rfl (lv_at hl 1 rfl) ?_
              obtain ⟨T21, r20, h19, hR⟩ := b2_e hR
              refine cVi (k := 52) (As := []) (rest := [.int x1]) X hl.1 w okX12_look obX12 rfl lmX12_122 (kX12_look h19) ⟨Nat.le_of_ble_eq_true rfl, Nat.le_of_ble_eq_true rfl⟩ ⟨rfl, rfl⟩ ⟨Nat.zero_le _, Nat.zero_le _⟩ rfl rfl (Nat.le_of_ble_eq_true rfl) dX12_items_116 (fun H locs zr20 w => ?_)
              obtain ⟨r23, h22, hR⟩ := bd_e hR
              refine cSi (As := [.int x1, .int r20]) (rest := []) X hl.1 w okX12_itemOf lmX12_216 (kX12_itemOf h22) ⟨Nat.le_of_ble_eq_true rfl, Nat.le_of_ble_eq_true rfl⟩ ⟨rfl, rfl⟩ ⟨Nat.zero_le _, Nat.zero_le _⟩ rfl rfl (Nat.le_of_ble_eq_true rfl) dX12_items_119 (fun H locs zr23 w => ?_)
              refine lv_goto (tgt := 126) hx hb dX12_items_122 (by decide) ?_
              refine lv_istore (lv' := [(6, .int r23), (5, .int v6), (0, .ref (ad 52)), (1, .int x1), (2, .ref (ad q2)), (3, .int x3)]) hx hb dX12_items_126 hl (by decide) rfl (fun ls hl => ?_)
              refine lv_goto (tgt := 41) hx hb dX12_items_128 (by decide) ?_
              exact ih x1 x3 v6 r23 T21 hR _ _ _ w (lv_sub hl [2, 3, 4, 5, 1, 0] rfl)
  have L3 : ∀ (n : Nat), ∀ (x1 : Int32) (x3 : Int32) (x4 : Int32) (x5 : Int32) (T : SS), fX12_items_l3 N q2 n x1 x3 x4 x5 T = some T' → WAT p l ev ({ frames := 3, cells := 0, slots := 0, locals := 63 } : Room) s m args below meth c QQ 7 D dA ad t1 t2 S T o 3 [(0, .ref (ad 52)), (1, .int x1), (2, .ref (ad q2)), (3, .int x3), (4, .int x4), (5, .int x5)] [] := by
    intro n
    induction n with
    | zero =>
      intro x1 x3 x4 x5 T hR
      exact nomatch hR
    | succ n ih =>
      intro x1 x3 x4 x5 T hR H locs ls w hl
      rw [fX12_items_l3] at hR
      refine lv_iload hx hb dX12_items_3 (lv_at hl 5 rfl) ?_
      refine lv_iload hx hb dX12_items_5 (lv_at hl 4 rfl) ?_
      refine lv_icmp_ge (tgt := 28) hx hb dX12_items_7 (by decide) (fun c1 => ?_) (fun c1 => ?_)
      · rw [if_pos c1] at hR
        refine lv_iconst (v := 0) hx hb dX12_items_28 (by decide) ?_
        refine lv_istore (lv' := [(5, .int 0), (0, .ref (ad 52)), (1, .int x1), (2, .ref (ad q2)), (3, .int x3), (4, .int x4)]) hx hb dX12_items_29 hl (by decide) rfl (fun ls hl => ?_)
        refine lv_iload_n hx hb dX12_items_31 rfl (lv_at hl 2 rfl) ?_
        refine lv_aload_n hx hb dX12_items_32 rfl (lv_at hl 1 rfl) ?_
        obtain ⟨T4, r3, h2, hR⟩ := b2_e hR
        refine cVi (k := 52) (As := []) (rest := [.int x1]) X hl.1 w okX12_look obX12 rfl lmX12_122 (kX12_look h2) ⟨Nat.le_of_ble_eq_true rfl, Nat.le_of_ble_eq_true rfl⟩ ⟨rfl, rfl⟩ ⟨Nat.zero_le _, Nat.zero_le _⟩ rfl rfl (Nat.le_of_ble_eq_true rfl) dX12_items_33 (fun H locs zr3 w => ?_)
        obtain ⟨r6, h5, hR⟩ := bd_e hR
        refine cSi (As := [.int x1, .int r3]) (rest := []) X hl.1 w okX12_itemOf lmX12_216 (kX12_itemOf h5) ⟨Nat.le_of_ble_eq_true rfl, Nat.le_of_ble_eq_true rfl⟩ ⟨rfl, rfl⟩ ⟨Nat.zero_le _, Nat.zero_le _⟩ rfl rfl (Nat.le_of_ble_eq_true rfl) dX12_items_36 (fun H locs zr6 w => ?_)
        refine lv_istore (lv' := [(6, .int r6), (5, .int 0), (0, .ref (ad 52)), (1, .int x1), (2, .ref (ad q2)), (3, .int x3), (4, .int x4)]) hx hb dX12_items_39 hl (by decide) rfl (fun ls hl => ?_)
        exact L41 N x1 x3 0 r6 T4 hR _ _ _ w (lv_sub hl [2, 3, 4, 5, 1, 0] rfl)
      · rw [if_neg c1] at hR
        refine lv_aload_n hx hb dX12_items_10 rfl (lv_at hl 2 rfl) ?_
        refine lv_iload_n hx hb dX12_items_11 rfl (lv_at hl 3 rfl) ?_
        refine lv_iload hx hb dX12_items_12 (lv_at hl 5 rfl) ?_
        refine lv_iadd hx hb dX12_items_14 ?_
        refine lv_iload_n hx hb dX12_items_15 rfl (lv_at hl 1 rfl) ?_
        refine lv_iload hx hb dX12_items_16 (lv_at hl 5 rfl) ?_
        obtain ⟨r8, h7, hR⟩ := bd_e hR
        refine cSi (As := [.int x1, .int x5]) (rest := [.int (x3 + x5), .ref (ad q2)]) X hl.1 w okX12_usual lmX12_212 (kX12_usual h7) ⟨Nat.le_of_ble_eq_true rfl, Nat.le_of_ble_eq_true rfl⟩ ⟨rfl, rfl⟩ ⟨Nat.zero_le _, Nat.zero_le _⟩ rfl rfl (Nat.le_of_ble_eq_true rfl) dX12_items_18 (fun H locs zr8 w => ?_)
        obtain ⟨g9, hR⟩ := ck_e hR
        obtain ⟨T10, eT10, hR⟩ := lt_e hR
        refine iasT (n := (aln (fun _ => 0) q2)) (ikM hq2) (lkM hq2) X w (nkM hq2) g9 dX12_items_21 (fun H locs w => ?_)
        rw [← eT10] at w
        obtain ⟨v11, ev11, hR⟩ := lt_e hR
        refine lv_iinc (v := v11) (lv' := [(5, .int v11), (0, .ref (ad 52)), (1, .int x1), (2, .ref (ad q2)), (3, .int x3), (4, .int x4)]) hx hb dX12_items_22 hl (k := 5) rfl (by rw [ev11]; rfl) (by decide) rfl (fun ls hl => ?_)
        refine lv_goto (tgt := 3) hx hb dX12_items_25 (by decide) ?_
        exact ih x1 x3 x4 v11 T10 hR _ _ _ w (lv_sub hl [1, 2, 3, 4, 5, 0] rfl)
  have hl : lv_has ls 7 [(0, .ref (ad 52)), (1, .int p1), (2, .ref (ad q2)), (3, .int p3), (4, .int p4)] := hl
  unfold fX12_items at hR
  refine lv_iconst (v := 0) hx hb dX12_items_0 (by decide) ?_
  refine lv_istore (lv' := [(5, .int 0), (0, .ref (ad 52)), (1, .int p1), (2, .ref (ad q2)), (3, .int p3), (4, .int p4)]) hx hb dX12_items_1 hl (by decide) rfl (fun ls hl => ?_)
  exact L3 N p1 p3 p4 0 T hR _ _ _ w (lv_sub hl [1, 2, 3, 4, 5, 0] rfl)
/- LooseEndsModel.readMill()I -/
def fX12_readMill_j223 (N : Nat) (T : SS) : Option (SS × Int32) := bd (fX12_bad N T) fun T2 =>
  some (T2, gi T2 52 4)
def fX12_readMill_j199 (N : Nat) (T : SS) : Option (SS × Int32) := if (gi T 52 4) = (-1) then
  (b2 (fX12_look N T) fun T4 r3 =>
  if r3 = (-1) then
  (if 2 ≤ (gi T4 52 19) then
  (some (T4, gi T4 52 4))
  else
  (fX12_readMill_j223 N T4))
  else
  (fX12_readMill_j223 N T4))
  else
  (some (T, gi T 52 4))
def fX12_readMill_j177 (N : Nat) (kc44 : Int32 → Int32 → SS → Option (SS × Int32)) (x1 : Int32) (y0 : Int32) (T : SS) : Option (SS × Int32) := if y0 = 0 then
  (lt (pj T 52 3 ((gi T 52 3) + 0)) fun T2 =>
  kc44 x1 y0 T2)
  else
  (lt (pj T 52 3 ((gi T 52 3) + 1)) fun T3 =>
  kc44 x1 y0 T3)
def fX12_readMill_j176 (N : Nat) (kc44 : Int32 → Int32 → SS → Option (SS × Int32)) (x1 : Int32) (T : SS) : Option (SS × Int32) := fX12_readMill_j177 N kc44 x1 0 T
def fX12_readMill_j155 (N : Nat) (kc44 : Int32 → Int32 → SS → Option (SS × Int32)) (x1 : Int32) (T : SS) : Option (SS × Int32) := if (gi T 52 4) = (-1) then
  (b2 (fX12_look N T) fun T4 r3 =>
  if r3 = 59 then
  (fX12_readMill_j177 N kc44 x1 1 T4)
  else
  (fX12_readMill_j176 N kc44 x1 T4))
  else
  (fX12_readMill_j176 N kc44 x1 T)
def fX12_readMill_j151 (N : Nat) (kc44 : Int32 → Int32 → SS → Option (SS × Int32)) (x1 : Int32) (T : SS) : Option (SS × Int32) := bd (fX12_bad N T) fun T2 =>
  fX12_readMill_j155 N kc44 x1 T2
def fX12_readMill_j97 (N : Nat) (kc44 : Int32 → Int32 → SS → Option (SS × Int32)) (x1 : Int32) (x3 : Int32) (T : SS) : Option (SS × Int32) := if x3 = 116 then
  (if 7 ≤ (gi T 52 19) then
  (fX12_readMill_j151 N kc44 x1 T)
  else
  (lt (pj T 52 3 ((gi T 52 3) + 1)) fun T3 =>
  bd (fX12_items N T3 x3 64 (3 * (gi T3 52 19)) 3) fun T5 =>
  lt (pj T5 52 19 ((gi T5 52 19) + 1)) fun T6 =>
  fX12_readMill_j155 N kc44 x1 T6))
  else
  (fX12_readMill_j151 N kc44 x1 T)
def fX12_readMill_l44 (N : Nat) : Nat → Int32 → Int32 → SS → Option (SS × Int32)
  | 0, _, _, _ => none
  | n + 1, x1, x2, T => if x2 = 0 then
  (fX12_readMill_j199 N T)
  else
  (if (gi T 52 4) = (-1) then
  (b2 (fX12_look N T) fun T5 r4 =>
  if r4 = 115 then
  (if x1 = 0 then
  (lt (pj T5 52 3 ((gi T5 52 3) + 1)) fun T8 =>
  bd (fX12_items N T8 r4 63 0 4) fun T10 =>
  fX12_readMill_j155 N (fX12_readMill_l44 N n) 1 T10)
  else
  (fX12_readMill_j97 N (fX12_readMill_l44 N n) x1 r4 T5))
  else
  (fX12_readMill_j97 N (fX12_readMill_l44 N n) x1 r4 T5))
  else
  (fX12_readMill_j199 N T))
def fX12_readMill_l19 (N : Nat) : Nat → Int32 → Int32 → SS → Option (SS × Int32)
  | 0, _, _, _ => none
  | n + 1, x1, x2, T => if 4 ≤ x2 then
  (fX12_readMill_l44 N N x1 1 T)
  else
  (bd (fX12_usual N 115 x2) fun r3 =>
  ck (inb x2 4) <|
  lt (pa T 63 x2 r3) fun T5 =>
  lt (x2 + 1) fun v6 =>
  fX12_readMill_l19 N n x1 v6 T5)
def fX12_readMill (N : Nat) (T : SS) : Option (SS × Int32) := lt (pj T 52 3 0) fun T1 =>
  lt (pj T1 52 4 (-1)) fun T2 =>
  lt (pj T2 52 19 0) fun T3 =>
  fX12_readMill_l19 N N 0 0 T3
set_option maxHeartbeats 4000000 in
set_option maxRecDepth 100000 in
theorem kX12_readMill {l : Launch} {D : va_G} {dA : Nat → ClassId} {ad : Nat → Nat} {t1 t2 : Nat} {N : Nat} {S T : SS} {o : Nat → Int64} {r : Int32} {T' : SS} (hR : fX12_readMill N T = some (T', r)) : KI l D dA ad t1 t2 yX12_readMill cX12_readMill 4 .int { frames := 4, cells := 0, slots := 0, locals := 89 } [.ref (ad 52)] S T o r S T' := by
  intro sz
  refine en_ (plainFor_of_name (by decide)) (Nat.le_of_ble_eq_true rfl) ?_
  intro p ev s m args below meth c QQ hQ hsz X hr hlk w ls hl
  have hx := X.1
  have hb := X.2.1
  have J223 : ∀ (T : SS), fX12_readMill_j223 N T = some (T', r) → WAT p l ev ({ frames := 4, cells := 0, slots := 0, locals := 89 } : Room) s m args below meth c QQ 4 D dA ad t1 t2 S T o 223 [(0, .ref (ad 52))] [] := by
    intro T hR H locs ls w hl
    unfold fX12_readMill_j223 at hR
    refine lv_aload_n hx hb dX12_readMill_223 rfl (lv_at hl 0 rfl) ?_
    obtain ⟨T2, h1, hR⟩ := bd_e hR
    refine cVv (k := 52) (As := []) (rest := []) X hl.1 w okX12_bad obX12 rfl lmX12_119 (kX12_bad h1) ⟨Nat.le_of_ble_eq_true rfl, Nat.le_of_ble_eq_true rfl⟩ ⟨rfl, rfl⟩ ⟨Nat.zero_le _, Nat.zero_le _⟩ rfl rfl (Nat.le_of_ble_eq_true rfl) dX12_readMill_224 (fun H locs w => ?_)
    refine lv_aload_n hx hb dX12_readMill_227 rfl (lv_at hl 0 rfl) ?_
    refine gX12_wrong X w lfX12_110 dX12_readMill_228 ?_
    rw [hQ]
    exact rt_i X hr hlk w hsz rfl rfl (lf2 hR).1 (lf2 hR).2 dX12_readMill_231
  have J199 : ∀ (T : SS), fX12_readMill_j199 N T = some (T', r) → WAT p l ev ({ frames := 4, cells := 0, slots := 0, locals := 89 } : Room) s m args below meth c QQ 4 D dA ad t1 t2 S T o 199 [(0, .ref (ad 52))] [] := by
    intro T hR H locs ls w hl
    unfold fX12_readMill_j199 at hR
    refine lv_aload_n hx hb dX12_readMill_199 rfl (lv_at hl 0 rfl) ?_
    refine gX12_wrong X w lfX12_110 dX12_readMill_200 ?_
    refine lv_iconst (v := -1) hx hb dX12_readMill_203 (by decide) ?_
    refine lv_icmp_ne (tgt := 227) hx hb dX12_readMill_204 (by decide) (fun c1 => ?_) (fun c1 => ?_)
    · rw [if_neg c1] at hR
      refine lv_aload_n hx hb dX12_readMill_227 rfl (lv_at hl 0 rfl) ?_
      refine gX12_wrong X w lfX12_110 dX12_readMill_228 ?_
      rw [hQ]
      exact rt_i X hr hlk w hsz rfl rfl (lf2 hR).1 (lf2 hR).2 dX12_readMill_231
    · rw [if_pos c1] at hR
      refine lv_aload_n hx hb dX12_readMill_207 rfl (lv_at hl 0 rfl) ?_
      obtain ⟨T4, r3, h2, hR⟩ := b2_e hR
      refine cVi (k := 52) (As := []) (rest := []) X hl.1 w okX12_look obX12 rfl lmX12_122 (kX12_look h2) ⟨Nat.le_of_ble_eq_true rfl, Nat.le_of_ble_eq_true rfl⟩ ⟨rfl, rfl⟩ ⟨Nat.zero_le _, Nat.zero_le _⟩ rfl rfl (Nat.le_of_ble_eq_true rfl) dX12_readMill_208 (fun H locs zr3 w => ?_)
      refine lv_iconst (v := -1) hx hb dX12_readMill_211 (by decide) ?_
      refine lv_icmp_ne (tgt := 223) hx hb dX12_readMill_212 (by decide) (fun c5 => ?_) (fun c5 => ?_)
      · rw [if_neg c5] at hR
        exact J223 T4 hR _ _ _ w (lv_sub hl [0] rfl)
      · rw [if_pos c5] at hR
        refine lv_aload_n hx hb dX12_readMill_215 rfl (lv_at hl 0 rfl) ?_
        refine gX12_readEnds X w lfX12_232 dX12_readMill_216 ?_
        refine lv_iconst (v := 2) hx hb dX12_readMill_219 (by decide) ?_
        refine lv_icmp_ge (tgt := 227) hx hb dX12_readMill_220 (by decide) (fun c6 => ?_) (fun c6 => ?_)
        · rw [if_pos c6] at hR
          refine lv_aload_n hx hb dX12_readMill_227 rfl (lv_at hl 0 rfl) ?_
          refine gX12_wrong X w lfX12_110 dX12_readMill_228 ?_
          rw [hQ]
          exact rt_i X hr hlk w hsz rfl rfl (lf2 hR).1 (lf2 hR).2 dX12_readMill_231
        · rw [if_neg c6] at hR
          exact J223 T4 hR _ _ _ w (lv_sub hl [0] rfl)
  have J177 : ∀ (kc44 : Int32 → Int32 → SS → Option (SS × Int32)) (_ : ∀ (x1 : Int32) (x2 : Int32) (T : SS), kc44 x1 x2 T = some (T', r) → WAT p l ev ({ frames := 4, cells := 0, slots := 0, locals := 89 } : Room) s m args below meth c QQ 4 D dA ad t1 t2 S T o 44 [(0, .ref (ad 52)), (1, .int x1), (2, .int x2)] []), ∀ (x1 : Int32) (y0 : Int32) (T : SS), fX12_readMill_j177 N kc44 x1 y0 T = some (T', r) → WAT p l ev ({ frames := 4, cells := 0, slots := 0, locals := 89 } : Room) s m args below meth c QQ 4 D dA ad t1 t2 S T o 177 [(0, .ref (ad 52)), (1, .int x1)] [.int y0] := by
    intro kc44 hk44 x1 y0 T hR H locs ls w hl
    unfold fX12_readMill_j177 at hR
    refine lv_istore_n (lv' := [(2, .int y0), (0, .ref (ad 52)), (1, .int x1)]) hx hb dX12_readMill_177 rfl hl (by decide) rfl (fun ls hl => ?_)
    refine lv_aload_n hx hb dX12_readMill_178 rfl (lv_at hl 1 rfl) ?_
    refine lv_dup hx hb dX12_readMill_179 rfl ?_
    refine gX12_at X w lfX12_103 dX12_readMill_180 ?_
    refine lv_iload_n hx hb dX12_readMill_183 rfl (lv_at hl 0 rfl) ?_
    refine lv_if_eq (tgt := 191) hx hb dX12_readMill_184 (by decide) (fun c1 => ?_) (fun c1 => ?_)
    · rw [if_pos c1] at hR
      refine lv_iconst (v := 0) hx hb dX12_readMill_191 (by decide) ?_
      refine lv_iadd hx hb dX12_readMill_192 ?_
      obtain ⟨T2, eT2, hR⟩ := lt_e hR
      refine pX12_at X w lfX12_103 dX12_readMill_193 (fun H locs w => ?_)
      rw [← eT2] at w
      refine lv_goto (tgt := 44) hx hb dX12_readMill_196 (by decide) ?_
      exact hk44 x1 y0 T2 hR _ _ _ w (lv_sub hl [1, 2, 0] rfl)
    · rw [if_neg c1] at hR
      refine lv_iconst (v := 1) hx hb dX12_readMill_187 (by decide) ?_
      refine lv_goto (tgt := 192) hx hb dX12_readMill_188 (by decide) ?_
      refine lv_iadd hx hb dX12_readMill_192 ?_
      obtain ⟨T3, eT3, hR⟩ := lt_e hR
      refine pX12_at X w lfX12_103 dX12_readMill_193 (fun H locs w => ?_)
      rw [← eT3] at w
      refine lv_goto (tgt := 44) hx hb dX12_readMill_196 (by decide) ?_
      exact hk44 x1 y0 T3 hR _ _ _ w (lv_sub hl [1, 2, 0] rfl)
  have J176 : ∀ (kc44 : Int32 → Int32 → SS → Option (SS × Int32)) (_ : ∀ (x1 : Int32) (x2 : Int32) (T : SS), kc44 x1 x2 T = some (T', r) → WAT p l ev ({ frames := 4, cells := 0, slots := 0, locals := 89 } : Room) s m args below meth c QQ 4 D dA ad t1 t2 S T o 44 [(0, .ref (ad 52)), (1, .int x1), (2, .int x2)] []), ∀ (x1 : Int32) (T : SS), fX12_readMill_j176 N kc44 x1 T = some (T', r) → WAT p l ev ({ frames := 4, cells := 0, slots := 0, locals := 89 } : Room) s m args below meth c QQ 4 D dA ad t1 t2 S T o 176 [(0, .ref (ad 52)), (1, .int x1)] [] := by
    intro kc44 hk44 x1 T hR H locs ls w hl
    unfold fX12_readMill_j176 at hR
    refine lv_iconst (v := 0) hx hb dX12_readMill_176 (by decide) ?_
    exact J177 _ hk44 x1 0 T hR _ _ _ w (lv_sub hl [0, 1] rfl)
  have J155 : ∀ (kc44 : Int32 → Int32 → SS → Option (SS × Int32)) (_ : ∀ (x1 : Int32) (x2 : Int32) (T : SS), kc44 x1 x2 T = some (T', r) → WAT p l ev ({ frames := 4, cells := 0, slots := 0, locals := 89 } : Room) s m args below meth c QQ 4 D dA ad t1 t2 S T o 44 [(0, .ref (ad 52)), (1, .int x1), (2, .int x2)] []), ∀ (x1 : Int32) (T : SS), fX12_readMill_j155 N kc44 x1 T = some (T', r) → WAT p l ev ({ frames := 4, cells := 0, slots := 0, locals := 89 } : Room) s m args below meth c QQ 4 D dA ad t1 t2 S T o 155 [(0, .ref (ad 52)), (1, .int x1)] [] := by
    intro kc44 hk44 x1 T hR H locs ls w hl
    unfold fX12_readMill_j155 at hR
    refine lv_aload_n hx hb dX12_readMill_155 rfl (lv_at hl 0 rfl) ?_
    refine gX12_wrong X w lfX12_110 dX12_readMill_156 ?_
    refine lv_iconst (v := -1) hx hb dX12_readMill_159 (by decide) ?_
    refine lv_icmp_ne (tgt := 176) hx hb dX12_readMill_160 (by decide) (fun c1 => ?_) (fun c1 => ?_)
    · rw [if_neg c1] at hR
      exact J176 _ hk44 x1 T hR _ _ _ w (lv_sub hl [0, 1] rfl)
    · rw [if_pos c1] at hR
      refine lv_aload_n hx hb dX12_readMill_163 rfl (lv_at hl 0 rfl) ?_
      obtain ⟨T4, r3, h2, hR⟩ := b2_e hR
      refine cVi (k := 52) (As := []) (rest := []) X hl.1 w okX12_look obX12 rfl lmX12_122 (kX12_look h2) ⟨Nat.le_of_ble_eq_true rfl, Nat.le_of_ble_eq_true rfl⟩ ⟨rfl, rfl⟩ ⟨Nat.zero_le _, Nat.zero_le _⟩ rfl rfl (Nat.le_of_ble_eq_true rfl) dX12_readMill_164 (fun H locs zr3 w => ?_)
      refine lv_bipush (v := 59) hx hb dX12_readMill_167 (by decide) ?_
      refine lv_icmp_ne (tgt := 176) hx hb dX12_readMill_169 (by decide) (fun c5 => ?_) (fun c5 => ?_)
      · rw [if_neg c5] at hR
        exact J176 _ hk44 x1 T4 hR _ _ _ w (lv_sub hl [0, 1] rfl)
      · rw [if_pos c5] at hR
        refine lv_iconst (v := 1) hx hb dX12_readMill_172 (by decide) ?_
        refine lv_goto (tgt := 177) hx hb dX12_readMill_173 (by decide) ?_
        exact J177 _ hk44 x1 1 T4 hR _ _ _ w (lv_sub hl [0, 1] rfl)
  have J151 : ∀ (kc44 : Int32 → Int32 → SS → Option (SS × Int32)) (_ : ∀ (x1 : Int32) (x2 : Int32) (T : SS), kc44 x1 x2 T = some (T', r) → WAT p l ev ({ frames := 4, cells := 0, slots := 0, locals := 89 } : Room) s m args below meth c QQ 4 D dA ad t1 t2 S T o 44 [(0, .ref (ad 52)), (1, .int x1), (2, .int x2)] []), ∀ (x1 : Int32) (T : SS), fX12_readMill_j151 N kc44 x1 T = some (T', r) → WAT p l ev ({ frames := 4, cells := 0, slots := 0, locals := 89 } : Room) s m args below meth c QQ 4 D dA ad t1 t2 S T o 151 [(0, .ref (ad 52)), (1, .int x1)] [] := by
    intro kc44 hk44 x1 T hR H locs ls w hl
    unfold fX12_readMill_j151 at hR
    refine lv_aload_n hx hb dX12_readMill_151 rfl (lv_at hl 0 rfl) ?_
    obtain ⟨T2, h1, hR⟩ := bd_e hR
    refine cVv (k := 52) (As := []) (rest := []) X hl.1 w okX12_bad obX12 rfl lmX12_119 (kX12_bad h1) ⟨Nat.le_of_ble_eq_true rfl, Nat.le_of_ble_eq_true rfl⟩ ⟨rfl, rfl⟩ ⟨Nat.zero_le _, Nat.zero_le _⟩ rfl rfl (Nat.le_of_ble_eq_true rfl) dX12_readMill_152 (fun H locs w => ?_)
    exact J155 _ hk44 x1 T2 hR _ _ _ w (lv_sub hl [0, 1] rfl)
  have J97 : ∀ (kc44 : Int32 → Int32 → SS → Option (SS × Int32)) (_ : ∀ (x1 : Int32) (x2 : Int32) (T : SS), kc44 x1 x2 T = some (T', r) → WAT p l ev ({ frames := 4, cells := 0, slots := 0, locals := 89 } : Room) s m args below meth c QQ 4 D dA ad t1 t2 S T o 44 [(0, .ref (ad 52)), (1, .int x1), (2, .int x2)] []), ∀ (x1 : Int32) (x3 : Int32) (T : SS), fX12_readMill_j97 N kc44 x1 x3 T = some (T', r) → WAT p l ev ({ frames := 4, cells := 0, slots := 0, locals := 89 } : Room) s m args below meth c QQ 4 D dA ad t1 t2 S T o 97 [(0, .ref (ad 52)), (1, .int x1), (3, .int x3)] [] := by
    intro kc44 hk44 x1 x3 T hR H locs ls w hl
    unfold fX12_readMill_j97 at hR
    refine lv_iload_n hx hb dX12_readMill_97 rfl (lv_at hl 2 rfl) ?_
    refine lv_bipush (v := 116) hx hb dX12_readMill_98 (by decide) ?_
    refine lv_icmp_ne (tgt := 151) hx hb dX12_readMill_100 (by decide) (fun c1 => ?_) (fun c1 => ?_)
    · rw [if_neg c1] at hR
      exact J151 _ hk44 x1 T hR _ _ _ w (lv_sub hl [0, 1] rfl)
    · rw [if_pos c1] at hR
      refine lv_aload_n hx hb dX12_readMill_103 rfl (lv_at hl 0 rfl) ?_
      refine gX12_readEnds X w lfX12_232 dX12_readMill_104 ?_
      refine lv_bipush (v := 7) hx hb dX12_readMill_107 (by decide) ?_
      refine lv_icmp_ge (tgt := 151) hx hb dX12_readMill_109 (by decide) (fun c2 => ?_) (fun c2 => ?_)
      · rw [if_pos c2] at hR
        exact J151 _ hk44 x1 T hR _ _ _ w (lv_sub hl [0, 1] rfl)
      · rw [if_neg c2] at hR
        refine lv_aload_n hx hb dX12_readMill_112 rfl (lv_at hl 0 rfl) ?_
        refine lv_dup hx hb dX12_readMill_113 rfl ?_
        refine gX12_at X w lfX12_103 dX12_readMill_114 ?_
        refine lv_iconst (v := 1) hx hb dX12_readMill_117 (by decide) ?_
        refine lv_iadd hx hb dX12_readMill_118 ?_
        obtain ⟨T3, eT3, hR⟩ := lt_e hR
        refine pX12_at X w lfX12_103 dX12_readMill_119 (fun H locs w => ?_)
        rw [← eT3] at w
        refine lv_aload_n hx hb dX12_readMill_122 rfl (lv_at hl 0 rfl) ?_
        refine lv_iload_n hx hb dX12_readMill_123 rfl (lv_at hl 2 rfl) ?_
        refine lv_aload_n hx hb dX12_readMill_124 rfl (lv_at hl 0 rfl) ?_
        refine gX12_readEnd X w lfX12_43 dX12_readMill_125 ?_
        refine lv_iconst (v := 3) hx hb dX12_readMill_128 (by decide) ?_
        refine lv_aload_n hx hb dX12_readMill_129 rfl (lv_at hl 0 rfl) ?_
        refine gX12_readEnds X w lfX12_232 dX12_readMill_130 ?_
        refine lv_imul hx hb dX12_readMill_133 ?_
        refine lv_iconst (v := 3) hx hb dX12_readMill_134 (by decide) ?_
        obtain ⟨T5, h4, hR⟩ := bd_e hR
        refine cVv (k := 52) (As := [.int x3, .ref (ad 64), .int (3 * (gi T3 52 19)), .int 3]) (rest := []) X hl.1 w okX12_items obX12 rfl lmX12_235 (kX12_items (Or.inr rfl) h4) ⟨Nat.le_of_ble_eq_true rfl, Nat.le_of_ble_eq_true rfl⟩ ⟨rfl, rfl⟩ ⟨Nat.zero_le _, Nat.zero_le _⟩ rfl rfl (Nat.le_of_ble_eq_true rfl) dX12_readMill_135 (fun H locs w => ?_)
        refine lv_aload_n hx hb dX12_readMill_138 rfl (lv_at hl 0 rfl) ?_
        refine lv_dup hx hb dX12_readMill_139 rfl ?_
        refine gX12_readEnds X w lfX12_232 dX12_readMill_140 ?_
        refine lv_iconst (v := 1) hx hb dX12_readMill_143 (by decide) ?_
        refine lv_iadd hx hb dX12_readMill_144 ?_
        obtain ⟨T6, eT6, hR⟩ := lt_e hR
        refine pX12_readEnds X w lfX12_232 dX12_readMill_145 (fun H locs w => ?_)
        rw [← eT6] at w
        refine lv_goto (tgt := 155) hx hb dX12_readMill_148 (by decide) ?_
        exact J155 _ hk44 x1 T6 hR _ _ _ w (lv_sub hl [0, 1] rfl)
  have L44 : ∀ (n : Nat), ∀ (x1 : Int32) (x2 : Int32) (T : SS), fX12_readMill_l44 N n x1 x2 T = some (T', r) → WAT p l ev ({ frames := 4, cells := 0, slots := 0, locals := 89 } : Room) s m args below meth c QQ 4 D dA ad t1 t2 S T o 44 [(0, .ref (ad 52)), (1, .int x1), (2, .int x2)] [] := by
    intro n
    induction n with
    | zero =>
      intro x1 x2 T hR
      exact nomatch hR
    | succ n ih =>
      intro x1 x2 T hR H locs ls w hl
      rw [fX12_readMill_l44] at hR
      refine lv_iload_n hx hb dX12_readMill_44 rfl (lv_at hl 2 rfl) ?_
      refine lv_if_eq (tgt := 199) hx hb dX12_readMill_45 (by decide) (fun c1 => ?_) (fun c1 => ?_)
      · rw [if_pos c1] at hR
        exact J199 T hR _ _ _ w (lv_sub hl [0] rfl)
      · rw [if_neg c1] at hR
        refine lv_aload_n hx hb dX12_readMill_48 rfl (lv_at hl 0 rfl) ?_
        refine gX12_wrong X w lfX12_110 dX12_readMill_49 ?_
        refine lv_iconst (v := -1) hx hb dX12_readMill_52 (by decide) ?_
        refine lv_icmp_ne (tgt := 199) hx hb dX12_readMill_53 (by decide) (fun c2 => ?_) (fun c2 => ?_)
        · rw [if_neg c2] at hR
          exact J199 T hR _ _ _ w (lv_sub hl [0] rfl)
        · rw [if_pos c2] at hR
          refine lv_aload_n hx hb dX12_readMill_56 rfl (lv_at hl 0 rfl) ?_
          obtain ⟨T5, r4, h3, hR⟩ := b2_e hR
          refine cVi (k := 52) (As := []) (rest := []) X hl.1 w okX12_look obX12 rfl lmX12_122 (kX12_look h3) ⟨Nat.le_of_ble_eq_true rfl, Nat.le_of_ble_eq_true rfl⟩ ⟨rfl, rfl⟩ ⟨Nat.zero_le _, Nat.zero_le _⟩ rfl rfl (Nat.le_of_ble_eq_true rfl) dX12_readMill_57 (fun H locs zr4 w => ?_)
          refine lv_istore_n (lv' := [(3, .int r4), (0, .ref (ad 52)), (1, .int x1), (2, .int x2)]) hx hb dX12_readMill_60 rfl hl (by decide) rfl (fun ls hl => ?_)
          refine lv_iload_n hx hb dX12_readMill_61 rfl (lv_at hl 0 rfl) ?_
          refine lv_bipush (v := 115) hx hb dX12_readMill_62 (by decide) ?_
          refine lv_icmp_ne (tgt := 97) hx hb dX12_readMill_64 (by decide) (fun c6 => ?_) (fun c6 => ?_)
          · rw [if_neg c6] at hR
            exact J97 _ ih x1 r4 T5 hR _ _ _ w (lv_sub hl [1, 2, 0] rfl)
          · rw [if_pos c6] at hR
            refine lv_iload_n hx hb dX12_readMill_67 rfl (lv_at hl 2 rfl) ?_
            refine lv_if_ne (tgt := 97) hx hb dX12_readMill_68 (by decide) (fun c7 => ?_) (fun c7 => ?_)
            · rw [if_neg c7] at hR
              exact J97 _ ih x1 r4 T5 hR _ _ _ w (lv_sub hl [1, 2, 0] rfl)
            · rw [if_pos c7] at hR
              refine lv_iconst (v := 1) hx hb dX12_readMill_71 (by decide) ?_
              refine lv_istore_n (lv' := [(1, .int 1), (3, .int r4), (0, .ref (ad 52)), (2, .int x2)]) hx hb dX12_readMill_72 rfl hl (by decide) rfl (fun ls hl => ?_)
              refine lv_aload_n hx hb dX12_readMill_73 rfl (lv_at hl 2 rfl) ?_
              refine lv_dup hx hb dX12_readMill_74 rfl ?_
              refine gX12_at X w lfX12_103 dX12_readMill_75 ?_
              refine lv_iconst (v := 1) hx hb dX12_readMill_78 (by decide) ?_
              refine lv_iadd hx hb dX12_readMill_79 ?_
              obtain ⟨T8, eT8, hR⟩ := lt_e hR
              refine pX12_at X w lfX12_103 dX12_readMill_80 (fun H locs w => ?_)
              rw [← eT8] at w
              refine lv_aload_n hx hb dX12_readMill_83 rfl (lv_at hl 2 rfl) ?_
              refine lv_iload_n hx hb dX12_readMill_84 rfl (lv_at hl 1 rfl) ?_
              refine lv_aload_n hx hb dX12_readMill_85 rfl (lv_at hl 2 rfl) ?_
              refine gX12_readRule X w lfX12_40 dX12_readMill_86 ?_
              refine lv_iconst (v := 0) hx hb dX12_readMill_89 (by decide) ?_
              refine lv_iconst (v := 4) hx hb dX12_readMill_90 (by decide) ?_
              obtain ⟨T10, h9, hR⟩ := bd_e hR
              refine cVv (k := 52) (As := [.int r4, .ref (ad 63), .int 0, .int 4]) (rest := []) X hl.1 w okX12_items obX12 rfl lmX12_235 (kX12_items (Or.inl rfl) h9) ⟨Nat.le_of_ble_eq_true rfl, Nat.le_of_ble_eq_true rfl⟩ ⟨rfl, rfl⟩ ⟨Nat.zero_le _, Nat.zero_le _⟩ rfl rfl (Nat.le_of_ble_eq_true rfl) dX12_readMill_91 (fun H locs w => ?_)
              refine lv_goto (tgt := 155) hx hb dX12_readMill_94 (by decide) ?_
              exact J155 _ ih 1 T10 hR _ _ _ w (lv_sub hl [2, 0] rfl)
  have L19 : ∀ (n : Nat), ∀ (x1 : Int32) (x2 : Int32) (T : SS), fX12_readMill_l19 N n x1 x2 T = some (T', r) → WAT p l ev ({ frames := 4, cells := 0, slots := 0, locals := 89 } : Room) s m args below meth c QQ 4 D dA ad t1 t2 S T o 19 [(0, .ref (ad 52)), (1, .int x1), (2, .int x2)] [] := by
    intro n
    induction n with
    | zero =>
      intro x1 x2 T hR
      exact nomatch hR
    | succ n ih =>
      intro x1 x2 T hR H locs ls w hl
      rw [fX12_readMill_l19] at hR
      refine lv_iload_n hx hb dX12_readMill_19 rfl (lv_at hl 2 rfl) ?_
      refine lv_iconst (v := 4) hx hb dX12_readMill_20 (by decide) ?_
      refine lv_icmp_ge (tgt := 42) hx hb dX12_readMill_21 (by decide) (fun c1 => ?_) (fun c1 => ?_)
      · rw [if_pos c1] at hR
        refine lv_iconst (v := 1) hx hb dX12_readMill_42 (by decide) ?_
        refine lv_istore_n (lv' := [(2, .int 1), (0, .ref (ad 52)), (1, .int x1)]) hx hb dX12_readMill_43 rfl hl (by decide) rfl (fun ls hl => ?_)
        exact L44 N x1 1 T hR _ _ _ w (lv_sub hl [1, 2, 0] rfl)
      · rw [if_neg c1] at hR
        refine lv_aload_n hx hb dX12_readMill_24 rfl (lv_at hl 0 rfl) ?_
        refine gX12_readRule X w lfX12_40 dX12_readMill_25 ?_
        refine lv_iload_n hx hb dX12_readMill_28 rfl (lv_at hl 2 rfl) ?_
        refine lv_bipush (v := 115) hx hb dX12_readMill_29 (by decide) ?_
        refine lv_iload_n hx hb dX12_readMill_31 rfl (lv_at hl 2 rfl) ?_
        obtain ⟨r3, h2, hR⟩ := bd_e hR
        refine cSi (As := [.int 115, .int x2]) (rest := [.int x2, .ref (ad 63)]) X hl.1 w okX12_usual lmX12_212 (kX12_usual h2) ⟨Nat.le_of_ble_eq_true rfl, Nat.le_of_ble_eq_true rfl⟩ ⟨rfl, rfl⟩ ⟨Nat.zero_le _, Nat.zero_le _⟩ rfl rfl (Nat.le_of_ble_eq_true rfl) dX12_readMill_32 (fun H locs zr3 w => ?_)
        obtain ⟨g4, hR⟩ := ck_e hR
        obtain ⟨T5, eT5, hR⟩ := lt_e hR
        refine iasT (n := 4) rfl (by decide) X w rfl g4 dX12_readMill_35 (fun H locs w => ?_)
        rw [← eT5] at w
        obtain ⟨v6, ev6, hR⟩ := lt_e hR
        refine lv_iinc (v := v6) (lv' := [(2, .int v6), (0, .ref (ad 52)), (1, .int x1)]) hx hb dX12_readMill_36 hl (k := 2) rfl (by rw [ev6]; rfl) (by decide) rfl (fun ls hl => ?_)
        refine lv_goto (tgt := 19) hx hb dX12_readMill_39 (by decide) ?_
        exact ih x1 v6 T5 hR _ _ _ w (lv_sub hl [1, 2, 0] rfl)
  have hl : lv_has ls 4 [(0, .ref (ad 52))] := hl
  unfold fX12_readMill at hR
  refine lv_aload_n hx hb dX12_readMill_0 rfl (lv_at hl 0 rfl) ?_
  refine lv_iconst (v := 0) hx hb dX12_readMill_1 (by decide) ?_
  obtain ⟨T1, eT1, hR⟩ := lt_e hR
  refine pX12_at X w lfX12_103 dX12_readMill_2 (fun H locs w => ?_)
  rw [← eT1] at w
  refine lv_aload_n hx hb dX12_readMill_5 rfl (lv_at hl 0 rfl) ?_
  refine lv_iconst (v := -1) hx hb dX12_readMill_6 (by decide) ?_
  obtain ⟨T2, eT2, hR⟩ := lt_e hR
  refine pX12_wrong X w lfX12_110 dX12_readMill_7 (fun H locs w => ?_)
  rw [← eT2] at w
  refine lv_aload_n hx hb dX12_readMill_10 rfl (lv_at hl 0 rfl) ?_
  refine lv_iconst (v := 0) hx hb dX12_readMill_11 (by decide) ?_
  obtain ⟨T3, eT3, hR⟩ := lt_e hR
  refine pX12_readEnds X w lfX12_232 dX12_readMill_12 (fun H locs w => ?_)
  rw [← eT3] at w
  refine lv_iconst (v := 0) hx hb dX12_readMill_15 (by decide) ?_
  refine lv_istore_n (lv' := [(1, .int 0), (0, .ref (ad 52))]) hx hb dX12_readMill_16 rfl hl (by decide) rfl (fun ls hl => ?_)
  refine lv_iconst (v := 0) hx hb dX12_readMill_17 (by decide) ?_
  refine lv_istore_n (lv' := [(2, .int 0), (1, .int 0), (0, .ref (ad 52))]) hx hb dX12_readMill_18 rfl hl (by decide) rfl (fun ls hl => ?_)
  exact L19 N 0 0 T3 hR _ _ _ w (lv_sub hl [2, 1, 0] rfl)
/- LooseEndsModel.fault(I)I -/
def fX12_fault (N : Nat) (T : SS) (p1 : Int32) : Option (SS × Int32) := if p1 = 0 then
  (b2 (fX12_readMill N T) fun T8 r7 =>
  some (T8, r7))
  else
  (if p1 = 1 then
  (b2 (fX12_readLaw N T 4) fun T5 r4 =>
  some (T5, r4))
  else
  (some (T, (-2))))
set_option maxHeartbeats 4000000 in
set_option maxRecDepth 100000 in
theorem kX12_fault {l : Launch} {D : va_G} {dA : Nat → ClassId} {ad : Nat → Nat} {t1 t2 : Nat} {N : Nat} {S T : SS} {o : Nat → Int64} {p1 : Int32} {r : Int32} {T' : SS} (hR : fX12_fault N T p1 = some (T', r)) : KI l D dA ad t1 t2 yX12_fault cX12_fault 2 .int { frames := 430, cells := 0, slots := 0, locals := 8864 } [.ref (ad 52), .int p1] S T o r S T' := by
  intro sz
  refine en_ (plainFor_of_name (by decide)) (Nat.le_of_ble_eq_true rfl) ?_
  intro p ev s m args below meth c QQ hQ hsz X hr hlk w ls hl
  have hx := X.1
  have hb := X.2.1
  have hl : lv_has ls 2 [(0, .ref (ad 52)), (1, .int p1)] := hl
  unfold fX12_fault at hR
  refine lv_iload_n hx hb dX12_fault_0 rfl (lv_at hl 1 rfl) ?_
  refine lv_if_ne (tgt := 11) hx hb dX12_fault_1 (by decide) (fun c1 => ?_) (fun c1 => ?_)
  · rw [if_neg c1] at hR
    refine lv_iload_n hx hb dX12_fault_11 rfl (lv_at hl 1 rfl) ?_
    refine lv_iconst (v := 1) hx hb dX12_fault_12 (by decide) ?_
    refine lv_icmp_ne (tgt := 24) hx hb dX12_fault_13 (by decide) (fun c2 => ?_) (fun c2 => ?_)
    · rw [if_neg c2] at hR
      refine lv_bipush (v := -2) hx hb dX12_fault_24 (by decide) ?_
      rw [hQ]
      exact rt_i X hr hlk w hsz rfl rfl (lf2 hR).1 (lf2 hR).2 dX12_fault_26
    · rw [if_pos c2] at hR
      refine lv_aload_n hx hb dX12_fault_16 rfl (lv_at hl 0 rfl) ?_
      refine lv_iconst (v := 4) hx hb dX12_fault_17 (by decide) ?_
      obtain ⟨T5, r4, h3, hR⟩ := b2_e hR
      refine cVi (k := 52) (As := [.int 4]) (rest := []) X hl.1 w okX12_readLaw obX12 rfl lmX12_242 (kX12_readLaw h3) ⟨Nat.le_of_ble_eq_true rfl, Nat.le_of_ble_eq_true rfl⟩ ⟨rfl, rfl⟩ ⟨Nat.zero_le _, Nat.zero_le _⟩ rfl rfl (Nat.le_of_ble_eq_true rfl) dX12_fault_18 (fun H locs zr4 w => ?_)
      refine lv_goto (tgt := 26) hx hb dX12_fault_21 (by decide) ?_
      rw [hQ]
      exact rt_i X hr hlk w hsz rfl rfl (lf2 hR).1 (lf2 hR).2 dX12_fault_26
  · rw [if_pos c1] at hR
    refine lv_aload_n hx hb dX12_fault_4 rfl (lv_at hl 0 rfl) ?_
    obtain ⟨T8, r7, h6, hR⟩ := b2_e hR
    refine cVi (k := 52) (As := []) (rest := []) X hl.1 w okX12_readMill obX12 rfl lmX12_239 (kX12_readMill h6) ⟨Nat.le_of_ble_eq_true rfl, Nat.le_of_ble_eq_true rfl⟩ ⟨rfl, rfl⟩ ⟨Nat.zero_le _, Nat.zero_le _⟩ rfl rfl (Nat.le_of_ble_eq_true rfl) dX12_fault_5 (fun H locs zr7 w => ?_)
    refine lv_goto (tgt := 26) hx hb dX12_fault_8 (by decide) ?_
    rw [hQ]
    exact rt_i X hr hlk w hsz rfl rfl (lf2 hR).1 (lf2 hR).2 dX12_fault_26
/- LooseEndsModel.of(II)I -/
def fX12_of (N : Nat) (T : SS) (p1 : Int32) (p2 : Int32) : Option (Int32) := ck (inb ((3 * p1) + p2) 21) <|
  some (ga T 66 ((3 * p1) + p2))
set_option maxHeartbeats 4000000 in
set_option maxRecDepth 100000 in
theorem kX12_of {l : Launch} {D : va_G} {dA : Nat → ClassId} {ad : Nat → Nat} {t1 t2 : Nat} {N : Nat} {S T : SS} {o : Nat → Int64} {p1 : Int32} {p2 : Int32} {r : Int32} (hR : fX12_of N T p1 p2 = some r) : KI l D dA ad t1 t2 yX12_of cX12_of 3 .int { frames := 0, cells := 0, slots := 0, locals := 0 } [.ref (ad 52), .int p1, .int p2] S T o r S T := by
  intro sz
  refine en_ (plainFor_of_name (by decide)) (Nat.le_of_ble_eq_true rfl) ?_
  intro p ev s m args below meth c QQ hQ hsz X hr hlk w ls hl
  have hx := X.1
  have hb := X.2.1
  have hl : lv_has ls 3 [(0, .ref (ad 52)), (1, .int p1), (2, .int p2)] := hl
  unfold fX12_of at hR
  refine lv_aload_n hx hb dX12_of_0 rfl (lv_at hl 0 rfl) ?_
  refine gX12_thread X w lfX12_49 dX12_of_1 ?_
  refine lv_iconst (v := 3) hx hb dX12_of_4 (by decide) ?_
  refine lv_iload_n hx hb dX12_of_5 rfl (lv_at hl 1 rfl) ?_
  refine lv_imul hx hb dX12_of_6 ?_
  refine lv_iload_n hx hb dX12_of_7 rfl (lv_at hl 2 rfl) ?_
  refine lv_iadd hx hb dX12_of_8 ?_
  obtain ⟨g1, hR⟩ := ck_e hR
  refine ialT (n := 21) rfl (by decide) X w rfl g1 dX12_of_9 ?_
  rw [hQ]
  exact rt_i X hr hlk w hsz rfl rfl rfl (lf1 hR) dX12_of_10
/- LooseEndsModel.takeMill()I -/
def fX12_takeMill_l128 (N : Nat) : Nat → Int32 → SS → Option (SS × Int32)
  | 0, _, _ => none
  | n + 1, x1, T => if 7 ≤ x1 then
  (lt (pa T 67 31 (ga T 65 3)) fun T2 =>
  lt (pj T2 52 42 0) fun T3 =>
  lt (pj T3 52 28 0) fun T4 =>
  lt (pj T4 52 44 0) fun T5 =>
  some (T5, gi T5 52 22))
  else
  (ck (inb (14 + x1) 214) <|
  lt (pa T 67 (14 + x1) (-1)) fun T7 =>
  ck (inb (21 + x1) 214) <|
  lt (pa T7 67 (21 + x1) (-1)) fun T9 =>
  lt (x1 + 1) fun v10 =>
  fX12_takeMill_l128 N n v10 T9)
def fX12_takeMill_l83 (N : Nat) : Nat → Int32 → SS → Option (SS × Int32)
  | 0, _, _ => none
  | n + 1, x1, T => if (gi T 52 22) ≤ x1 then
  (fX12_takeMill_l128 N N 0 T)
  else
  (bd (fX12_of N T x1 0) fun r3 =>
  ck (inb (0 + x1) 214) <|
  lt (pa T 67 (0 + x1) r3) fun T5 =>
  bd (fX12_of N T5 x1 2) fun r7 =>
  ck (inb (7 + x1) 214) <|
  lt (pa T5 67 (7 + x1) r7) fun T9 =>
  lt (x1 + 1) fun v10 =>
  fX12_takeMill_l83 N n v10 T9)
def fX12_takeMill_l61 (N : Nat) : Nat → Int32 → SS → Option (SS × Int32)
  | 0, _, _ => none
  | n + 1, x1, T => if 214 ≤ x1 then
  (fX12_takeMill_l83 N N 0 T)
  else
  (ck (inb x1 214) <|
  lt (pa T 67 x1 0) fun T3 =>
  lt (x1 + 1) fun v4 =>
  fX12_takeMill_l61 N n v4 T3)
def fX12_takeMill_l35 (N : Nat) : Nat → Int32 → SS → Option (SS × Int32)
  | 0, _, _ => none
  | n + 1, x1, T => if 21 ≤ x1 then
  (fX12_takeMill_l61 N N 0 T)
  else
  (ck (inb x1 21) <|
  ck (inb x1 21) <|
  lt (pa T 66 x1 (ga T 64 x1)) fun T4 =>
  lt (x1 + 1) fun v5 =>
  fX12_takeMill_l35 N n v5 T4)
def fX12_takeMill_l10 (N : Nat) : Nat → Int32 → SS → Option (SS × Int32)
  | 0, _, _ => none
  | n + 1, x1, T => if 4 ≤ x1 then
  (fX12_takeMill_l35 N N 0 T)
  else
  (ck (inb x1 4) <|
  ck (inb x1 4) <|
  lt (pa T 65 x1 (ga T 63 x1)) fun T4 =>
  lt (x1 + 1) fun v5 =>
  fX12_takeMill_l10 N n v5 T4)
def fX12_takeMill (N : Nat) (T : SS) : Option (SS × Int32) := lt (pj T 52 22 (gi T 52 19)) fun T1 =>
  fX12_takeMill_l10 N N 0 T1
set_option maxHeartbeats 4000000 in
set_option maxRecDepth 100000 in
theorem kX12_takeMill {l : Launch} {D : va_G} {dA : Nat → ClassId} {ad : Nat → Nat} {t1 t2 : Nat} {N : Nat} {S T : SS} {o : Nat → Int64} {r : Int32} {T' : SS} (hR : fX12_takeMill N T = some (T', r)) : KI l D dA ad t1 t2 yX12_takeMill cX12_takeMill 2 .int { frames := 1, cells := 0, slots := 0, locals := 22 } [.ref (ad 52)] S T o r S T' := by
  intro sz
  refine en_ (plainFor_of_name (by decide)) (Nat.le_of_ble_eq_true rfl) ?_
  intro p ev s m args below meth c QQ hQ hsz X hr hlk w ls hl
  have hx := X.1
  have hb := X.2.1
  have L128 : ∀ (n : Nat), ∀ (x1 : Int32) (T : SS), fX12_takeMill_l128 N n x1 T = some (T', r) → WAT p l ev ({ frames := 1, cells := 0, slots := 0, locals := 22 } : Room) s m args below meth c QQ 2 D dA ad t1 t2 S T o 128 [(0, .ref (ad 52)), (1, .int x1)] [] := by
    intro n
    induction n with
    | zero =>
      intro x1 T hR
      exact nomatch hR
    | succ n ih =>
      intro x1 T hR H locs ls w hl
      rw [fX12_takeMill_l128] at hR
      refine lv_iload_n hx hb dX12_takeMill_128 rfl (lv_at hl 1 rfl) ?_
      refine lv_bipush (v := 7) hx hb dX12_takeMill_129 (by decide) ?_
      refine lv_icmp_ge (tgt := 160) hx hb dX12_takeMill_131 (by decide) (fun c1 => ?_) (fun c1 => ?_)
      · rw [if_pos c1] at hR
        refine lv_aload_n hx hb dX12_takeMill_160 rfl (lv_at hl 0 rfl) ?_
        refine gX12_now X w lfX12_52 dX12_takeMill_161 ?_
        refine lv_bipush (v := 31) hx hb dX12_takeMill_164 (by decide) ?_
        refine lv_aload_n hx hb dX12_takeMill_166 rfl (lv_at hl 0 rfl) ?_
        refine gX12_rule X w lfX12_46 dX12_takeMill_167 ?_
        refine lv_iconst (v := 3) hx hb dX12_takeMill_170 (by decide) ?_
        refine ialT (n := 4) rfl (by decide) X w rfl (by decide) dX12_takeMill_171 ?_
        obtain ⟨T2, eT2, hR⟩ := lt_e hR
        refine iasT (n := 214) rfl (by decide) X w rfl (by decide) dX12_takeMill_172 (fun H locs w => ?_)
        rw [← eT2] at w
        refine lv_aload_n hx hb dX12_takeMill_173 rfl (lv_at hl 0 rfl) ?_
        refine lv_iconst (v := 0) hx hb dX12_takeMill_174 (by decide) ?_
        obtain ⟨T3, eT3, hR⟩ := lt_e hR
        refine pX12_noted X w lfX12_251 dX12_takeMill_175 (fun H locs w => ?_)
        rw [← eT3] at w
        refine lv_aload_n hx hb dX12_takeMill_178 rfl (lv_at hl 0 rfl) ?_
        refine lv_iconst (v := 0) hx hb dX12_takeMill_179 (by decide) ?_
        obtain ⟨T4, eT4, hR⟩ := lt_e hR
        refine pX12_acts X w lfX12_254 dX12_takeMill_180 (fun H locs w => ?_)
        rw [← eT4] at w
        refine lv_aload_n hx hb dX12_takeMill_183 rfl (lv_at hl 0 rfl) ?_
        refine lv_iconst (v := 0) hx hb dX12_takeMill_184 (by decide) ?_
        obtain ⟨T5, eT5, hR⟩ := lt_e hR
        refine pX12_hasImage ⟨rfl, rfl⟩ X w lfX12_257 dX12_takeMill_185 (fun H locs w => ?_)
        rw [← eT5] at w
        refine lv_aload_n hx hb dX12_takeMill_188 rfl (lv_at hl 0 rfl) ?_
        refine gX12_ends X w lfX12_245 dX12_takeMill_189 ?_
        rw [hQ]
        exact rt_i X hr hlk w hsz rfl rfl (lf2 hR).1 (lf2 hR).2 dX12_takeMill_192
      · rw [if_neg c1] at hR
        refine lv_aload_n hx hb dX12_takeMill_134 rfl (lv_at hl 0 rfl) ?_
        refine gX12_now X w lfX12_52 dX12_takeMill_135 ?_
        refine lv_bipush (v := 14) hx hb dX12_takeMill_138 (by decide) ?_
        refine lv_iload_n hx hb dX12_takeMill_140 rfl (lv_at hl 1 rfl) ?_
        refine lv_iadd hx hb dX12_takeMill_141 ?_
        refine lv_iconst (v := -1) hx hb dX12_takeMill_142 (by decide) ?_
        obtain ⟨g6, hR⟩ := ck_e hR
        obtain ⟨T7, eT7, hR⟩ := lt_e hR
        refine iasT (n := 214) rfl (by decide) X w rfl g6 dX12_takeMill_143 (fun H locs w => ?_)
        rw [← eT7] at w
        refine lv_aload_n hx hb dX12_takeMill_144 rfl (lv_at hl 0 rfl) ?_
        refine gX12_now X w lfX12_52 dX12_takeMill_145 ?_
        refine lv_bipush (v := 21) hx hb dX12_takeMill_148 (by decide) ?_
        refine lv_iload_n hx hb dX12_takeMill_150 rfl (lv_at hl 1 rfl) ?_
        refine lv_iadd hx hb dX12_takeMill_151 ?_
        refine lv_iconst (v := -1) hx hb dX12_takeMill_152 (by decide) ?_
        obtain ⟨g8, hR⟩ := ck_e hR
        obtain ⟨T9, eT9, hR⟩ := lt_e hR
        refine iasT (n := 214) rfl (by decide) X w rfl g8 dX12_takeMill_153 (fun H locs w => ?_)
        rw [← eT9] at w
        obtain ⟨v10, ev10, hR⟩ := lt_e hR
        refine lv_iinc (v := v10) (lv' := [(1, .int v10), (0, .ref (ad 52))]) hx hb dX12_takeMill_154 hl (k := 1) rfl (by rw [ev10]; rfl) (by decide) rfl (fun ls hl => ?_)
        refine lv_goto (tgt := 128) hx hb dX12_takeMill_157 (by decide) ?_
        exact ih v10 T9 hR _ _ _ w (lv_sub hl [1, 0] rfl)
  have L83 : ∀ (n : Nat), ∀ (x1 : Int32) (T : SS), fX12_takeMill_l83 N n x1 T = some (T', r) → WAT p l ev ({ frames := 1, cells := 0, slots := 0, locals := 22 } : Room) s m args below meth c QQ 2 D dA ad t1 t2 S T o 83 [(0, .ref (ad 52)), (1, .int x1)] [] := by
    intro n
    induction n with
    | zero =>
      intro x1 T hR
      exact nomatch hR
    | succ n ih =>
      intro x1 T hR H locs ls w hl
      rw [fX12_takeMill_l83] at hR
      refine lv_iload_n hx hb dX12_takeMill_83 rfl (lv_at hl 1 rfl) ?_
      refine lv_aload_n hx hb dX12_takeMill_84 rfl (lv_at hl 0 rfl) ?_
      refine gX12_ends X w lfX12_245 dX12_takeMill_85 ?_
      refine lv_icmp_ge (tgt := 126) hx hb dX12_takeMill_88 (by decide) (fun c1 => ?_) (fun c1 => ?_)
      · rw [if_pos c1] at hR
        refine lv_iconst (v := 0) hx hb dX12_takeMill_126 (by decide) ?_
        refine lv_istore_n (lv' := [(1, .int 0), (0, .ref (ad 52))]) hx hb dX12_takeMill_127 rfl hl (by decide) rfl (fun ls hl => ?_)
        exact L128 N 0 T hR _ _ _ w (lv_sub hl [1, 0] rfl)
      · rw [if_neg c1] at hR
        refine lv_aload_n hx hb dX12_takeMill_91 rfl (lv_at hl 0 rfl) ?_
        refine gX12_now X w lfX12_52 dX12_takeMill_92 ?_
        refine lv_iconst (v := 0) hx hb dX12_takeMill_95 (by decide) ?_
        refine lv_iload_n hx hb dX12_takeMill_96 rfl (lv_at hl 1 rfl) ?_
        refine lv_iadd hx hb dX12_takeMill_97 ?_
        refine lv_aload_n hx hb dX12_takeMill_98 rfl (lv_at hl 0 rfl) ?_
        refine lv_iload_n hx hb dX12_takeMill_99 rfl (lv_at hl 1 rfl) ?_
        refine lv_iconst (v := 0) hx hb dX12_takeMill_100 (by decide) ?_
        obtain ⟨r3, h2, hR⟩ := bd_e hR
        refine cVi (k := 52) (As := [.int x1, .int 0]) (rest := [.int (0 + x1), .ref (ad 67)]) X hl.1 w okX12_of obX12 rfl lmX12_248 (kX12_of h2) ⟨Nat.le_of_ble_eq_true rfl, Nat.le_of_ble_eq_true rfl⟩ ⟨rfl, rfl⟩ ⟨Nat.zero_le _, Nat.zero_le _⟩ rfl rfl (Nat.le_of_ble_eq_true rfl) dX12_takeMill_101 (fun H locs zr3 w => ?_)
        obtain ⟨g4, hR⟩ := ck_e hR
        obtain ⟨T5, eT5, hR⟩ := lt_e hR
        refine iasT (n := 214) rfl (by decide) X w rfl g4 dX12_takeMill_104 (fun H locs w => ?_)
        rw [← eT5] at w
        refine lv_aload_n hx hb dX12_takeMill_105 rfl (lv_at hl 0 rfl) ?_
        refine gX12_now X w lfX12_52 dX12_takeMill_106 ?_
        refine lv_bipush (v := 7) hx hb dX12_takeMill_109 (by decide) ?_
        refine lv_iload_n hx hb dX12_takeMill_111 rfl (lv_at hl 1 rfl) ?_
        refine lv_iadd hx hb dX12_takeMill_112 ?_
        refine lv_aload_n hx hb dX12_takeMill_113 rfl (lv_at hl 0 rfl) ?_
        refine lv_iload_n hx hb dX12_takeMill_114 rfl (lv_at hl 1 rfl) ?_
        refine lv_iconst (v := 2) hx hb dX12_takeMill_115 (by decide) ?_
        obtain ⟨r7, h6, hR⟩ := bd_e hR
        refine cVi (k := 52) (As := [.int x1, .int 2]) (rest := [.int (7 + x1), .ref (ad 67)]) X hl.1 w okX12_of obX12 rfl lmX12_248 (kX12_of h6) ⟨Nat.le_of_ble_eq_true rfl, Nat.le_of_ble_eq_true rfl⟩ ⟨rfl, rfl⟩ ⟨Nat.zero_le _, Nat.zero_le _⟩ rfl rfl (Nat.le_of_ble_eq_true rfl) dX12_takeMill_116 (fun H locs zr7 w => ?_)
        obtain ⟨g8, hR⟩ := ck_e hR
        obtain ⟨T9, eT9, hR⟩ := lt_e hR
        refine iasT (n := 214) rfl (by decide) X w rfl g8 dX12_takeMill_119 (fun H locs w => ?_)
        rw [← eT9] at w
        obtain ⟨v10, ev10, hR⟩ := lt_e hR
        refine lv_iinc (v := v10) (lv' := [(1, .int v10), (0, .ref (ad 52))]) hx hb dX12_takeMill_120 hl (k := 1) rfl (by rw [ev10]; rfl) (by decide) rfl (fun ls hl => ?_)
        refine lv_goto (tgt := 83) hx hb dX12_takeMill_123 (by decide) ?_
        exact ih v10 T9 hR _ _ _ w (lv_sub hl [1, 0] rfl)
  have L61 : ∀ (n : Nat), ∀ (x1 : Int32) (T : SS), fX12_takeMill_l61 N n x1 T = some (T', r) → WAT p l ev ({ frames := 1, cells := 0, slots := 0, locals := 22 } : Room) s m args below meth c QQ 2 D dA ad t1 t2 S T o 61 [(0, .ref (ad 52)), (1, .int x1)] [] := by
    intro n
    induction n with
    | zero =>
      intro x1 T hR
      exact nomatch hR
    | succ n ih =>
      intro x1 T hR H locs ls w hl
      rw [fX12_takeMill_l61] at hR
      refine lv_iload_n hx hb dX12_takeMill_61 rfl (lv_at hl 1 rfl) ?_
      refine lv_sipush (v := 214) hx hb dX12_takeMill_62 (by decide) ?_
      refine lv_icmp_ge (tgt := 81) hx hb dX12_takeMill_65 (by decide) (fun c1 => ?_) (fun c1 => ?_)
      · rw [if_pos c1] at hR
        refine lv_iconst (v := 0) hx hb dX12_takeMill_81 (by decide) ?_
        refine lv_istore_n (lv' := [(1, .int 0), (0, .ref (ad 52))]) hx hb dX12_takeMill_82 rfl hl (by decide) rfl (fun ls hl => ?_)
        exact L83 N 0 T hR _ _ _ w (lv_sub hl [1, 0] rfl)
      · rw [if_neg c1] at hR
        refine lv_aload_n hx hb dX12_takeMill_68 rfl (lv_at hl 0 rfl) ?_
        refine gX12_now X w lfX12_52 dX12_takeMill_69 ?_
        refine lv_iload_n hx hb dX12_takeMill_72 rfl (lv_at hl 1 rfl) ?_
        refine lv_iconst (v := 0) hx hb dX12_takeMill_73 (by decide) ?_
        obtain ⟨g2, hR⟩ := ck_e hR
        obtain ⟨T3, eT3, hR⟩ := lt_e hR
        refine iasT (n := 214) rfl (by decide) X w rfl g2 dX12_takeMill_74 (fun H locs w => ?_)
        rw [← eT3] at w
        obtain ⟨v4, ev4, hR⟩ := lt_e hR
        refine lv_iinc (v := v4) (lv' := [(1, .int v4), (0, .ref (ad 52))]) hx hb dX12_takeMill_75 hl (k := 1) rfl (by rw [ev4]; rfl) (by decide) rfl (fun ls hl => ?_)
        refine lv_goto (tgt := 61) hx hb dX12_takeMill_78 (by decide) ?_
        exact ih v4 T3 hR _ _ _ w (lv_sub hl [1, 0] rfl)
  have L35 : ∀ (n : Nat), ∀ (x1 : Int32) (T : SS), fX12_takeMill_l35 N n x1 T = some (T', r) → WAT p l ev ({ frames := 1, cells := 0, slots := 0, locals := 22 } : Room) s m args below meth c QQ 2 D dA ad t1 t2 S T o 35 [(0, .ref (ad 52)), (1, .int x1)] [] := by
    intro n
    induction n with
    | zero =>
      intro x1 T hR
      exact nomatch hR
    | succ n ih =>
      intro x1 T hR H locs ls w hl
      rw [fX12_takeMill_l35] at hR
      refine lv_iload_n hx hb dX12_takeMill_35 rfl (lv_at hl 1 rfl) ?_
      refine lv_bipush (v := 21) hx hb dX12_takeMill_36 (by decide) ?_
      refine lv_icmp_ge (tgt := 59) hx hb dX12_takeMill_38 (by decide) (fun c1 => ?_) (fun c1 => ?_)
      · rw [if_pos c1] at hR
        refine lv_iconst (v := 0) hx hb dX12_takeMill_59 (by decide) ?_
        refine lv_istore_n (lv' := [(1, .int 0), (0, .ref (ad 52))]) hx hb dX12_takeMill_60 rfl hl (by decide) rfl (fun ls hl => ?_)
        exact L61 N 0 T hR _ _ _ w (lv_sub hl [1, 0] rfl)
      · rw [if_neg c1] at hR
        refine lv_aload_n hx hb dX12_takeMill_41 rfl (lv_at hl 0 rfl) ?_
        refine gX12_thread X w lfX12_49 dX12_takeMill_42 ?_
        refine lv_iload_n hx hb dX12_takeMill_45 rfl (lv_at hl 1 rfl) ?_
        refine lv_aload_n hx hb dX12_takeMill_46 rfl (lv_at hl 0 rfl) ?_
        refine gX12_readEnd X w lfX12_43 dX12_takeMill_47 ?_
        refine lv_iload_n hx hb dX12_takeMill_50 rfl (lv_at hl 1 rfl) ?_
        obtain ⟨g2, hR⟩ := ck_e hR
        refine ialT (n := 21) rfl (by decide) X w rfl g2 dX12_takeMill_51 ?_
        obtain ⟨g3, hR⟩ := ck_e hR
        obtain ⟨T4, eT4, hR⟩ := lt_e hR
        refine iasT (n := 21) rfl (by decide) X w rfl g3 dX12_takeMill_52 (fun H locs w => ?_)
        rw [← eT4] at w
        obtain ⟨v5, ev5, hR⟩ := lt_e hR
        refine lv_iinc (v := v5) (lv' := [(1, .int v5), (0, .ref (ad 52))]) hx hb dX12_takeMill_53 hl (k := 1) rfl (by rw [ev5]; rfl) (by decide) rfl (fun ls hl => ?_)
        refine lv_goto (tgt := 35) hx hb dX12_takeMill_56 (by decide) ?_
        exact ih v5 T4 hR _ _ _ w (lv_sub hl [1, 0] rfl)
  have L10 : ∀ (n : Nat), ∀ (x1 : Int32) (T : SS), fX12_takeMill_l10 N n x1 T = some (T', r) → WAT p l ev ({ frames := 1, cells := 0, slots := 0, locals := 22 } : Room) s m args below meth c QQ 2 D dA ad t1 t2 S T o 10 [(0, .ref (ad 52)), (1, .int x1)] [] := by
    intro n
    induction n with
    | zero =>
      intro x1 T hR
      exact nomatch hR
    | succ n ih =>
      intro x1 T hR H locs ls w hl
      rw [fX12_takeMill_l10] at hR
      refine lv_iload_n hx hb dX12_takeMill_10 rfl (lv_at hl 1 rfl) ?_
      refine lv_iconst (v := 4) hx hb dX12_takeMill_11 (by decide) ?_
      refine lv_icmp_ge (tgt := 33) hx hb dX12_takeMill_12 (by decide) (fun c1 => ?_) (fun c1 => ?_)
      · rw [if_pos c1] at hR
        refine lv_iconst (v := 0) hx hb dX12_takeMill_33 (by decide) ?_
        refine lv_istore_n (lv' := [(1, .int 0), (0, .ref (ad 52))]) hx hb dX12_takeMill_34 rfl hl (by decide) rfl (fun ls hl => ?_)
        exact L35 N 0 T hR _ _ _ w (lv_sub hl [1, 0] rfl)
      · rw [if_neg c1] at hR
        refine lv_aload_n hx hb dX12_takeMill_15 rfl (lv_at hl 0 rfl) ?_
        refine gX12_rule X w lfX12_46 dX12_takeMill_16 ?_
        refine lv_iload_n hx hb dX12_takeMill_19 rfl (lv_at hl 1 rfl) ?_
        refine lv_aload_n hx hb dX12_takeMill_20 rfl (lv_at hl 0 rfl) ?_
        refine gX12_readRule X w lfX12_40 dX12_takeMill_21 ?_
        refine lv_iload_n hx hb dX12_takeMill_24 rfl (lv_at hl 1 rfl) ?_
        obtain ⟨g2, hR⟩ := ck_e hR
        refine ialT (n := 4) rfl (by decide) X w rfl g2 dX12_takeMill_25 ?_
        obtain ⟨g3, hR⟩ := ck_e hR
        obtain ⟨T4, eT4, hR⟩ := lt_e hR
        refine iasT (n := 4) rfl (by decide) X w rfl g3 dX12_takeMill_26 (fun H locs w => ?_)
        rw [← eT4] at w
        obtain ⟨v5, ev5, hR⟩ := lt_e hR
        refine lv_iinc (v := v5) (lv' := [(1, .int v5), (0, .ref (ad 52))]) hx hb dX12_takeMill_27 hl (k := 1) rfl (by rw [ev5]; rfl) (by decide) rfl (fun ls hl => ?_)
        refine lv_goto (tgt := 10) hx hb dX12_takeMill_30 (by decide) ?_
        exact ih v5 T4 hR _ _ _ w (lv_sub hl [1, 0] rfl)
  have hl : lv_has ls 2 [(0, .ref (ad 52))] := hl
  unfold fX12_takeMill at hR
  refine lv_aload_n hx hb dX12_takeMill_0 rfl (lv_at hl 0 rfl) ?_
  refine lv_aload_n hx hb dX12_takeMill_1 rfl (lv_at hl 0 rfl) ?_
  refine gX12_readEnds X w lfX12_232 dX12_takeMill_2 ?_
  obtain ⟨T1, eT1, hR⟩ := lt_e hR
  refine pX12_ends X w lfX12_245 dX12_takeMill_5 (fun H locs w => ?_)
  rw [← eT1] at w
  refine lv_iconst (v := 0) hx hb dX12_takeMill_8 (by decide) ?_
  refine lv_istore_n (lv' := [(1, .int 0), (0, .ref (ad 52))]) hx hb dX12_takeMill_9 rfl hl (by decide) rfl (fun ls hl => ?_)
  exact L10 N 0 T1 hR _ _ _ w (lv_sub hl [1, 0] rfl)
/- LooseEndsModel.text(I)I -/
def fX12_text_j22 (N : Nat) (x1 : Int32) (T : SS) : Option (SS × Int32) := if x1 = 1 then
  (if 4 ≤ (gi T 52 13) then
  (some (T, (-1)))
  else
  (b2 (fX12_readLaw N T (gi T 52 13)) fun T5 r4 =>
  if r4 = (-1) then
  (lt (pj T5 52 2 0) fun T7 =>
  lt (pj T7 52 13 ((gi T7 52 13) + 1)) fun T8 =>
  some (T8, (gi T8 52 13) - 1))
  else
  (some (T5, (-1)))))
  else
  (some (T, (-1)))
def fX12_text (N : Nat) (T : SS) (p1 : Int32) : Option (SS × Int32) := if p1 = 0 then
  (b2 (fX12_readMill N T) fun T4 r3 =>
  if r3 = (-1) then
  (lt (pj T4 52 2 0) fun T6 =>
  b2 (fX12_takeMill N T6) fun T9 r8 =>
  some (T9, r8))
  else
  (fX12_text_j22 N p1 T4))
  else
  (fX12_text_j22 N p1 T)
set_option maxHeartbeats 4000000 in
set_option maxRecDepth 100000 in
theorem kX12_text {l : Launch} {D : va_G} {dA : Nat → ClassId} {ad : Nat → Nat} {t1 t2 : Nat} {N : Nat} {S T : SS} {o : Nat → Int64} {p1 : Int32} {r : Int32} {T' : SS} (hR : fX12_text N T p1 = some (T', r)) : KI l D dA ad t1 t2 yX12_text cX12_text 2 .int { frames := 430, cells := 0, slots := 0, locals := 8864 } [.ref (ad 52), .int p1] S T o r S T' := by
  intro sz
  refine en_ (plainFor_of_name (by decide)) (Nat.le_of_ble_eq_true rfl) ?_
  intro p ev s m args below meth c QQ hQ hsz X hr hlk w ls hl
  have hx := X.1
  have hb := X.2.1
  have J22 : ∀ (x1 : Int32) (T : SS), fX12_text_j22 N x1 T = some (T', r) → WAT p l ev ({ frames := 430, cells := 0, slots := 0, locals := 8864 } : Room) s m args below meth c QQ 2 D dA ad t1 t2 S T o 22 [(0, .ref (ad 52)), (1, .int x1)] [] := by
    intro x1 T hR H locs ls w hl
    unfold fX12_text_j22 at hR
    refine lv_iload_n hx hb dX12_text_22 rfl (lv_at hl 1 rfl) ?_
    refine lv_iconst (v := 1) hx hb dX12_text_23 (by decide) ?_
    refine lv_icmp_ne (tgt := 69) hx hb dX12_text_24 (by decide) (fun c1 => ?_) (fun c1 => ?_)
    · rw [if_neg c1] at hR
      refine lv_iconst (v := -1) hx hb dX12_text_69 (by decide) ?_
      rw [hQ]
      exact rt_i X hr hlk w hsz rfl rfl (lf2 hR).1 (lf2 hR).2 dX12_text_70
    · rw [if_pos c1] at hR
      refine lv_aload_n hx hb dX12_text_27 rfl (lv_at hl 0 rfl) ?_
      refine gX12_laws X w lfX12_264 dX12_text_28 ?_
      refine lv_iconst (v := 4) hx hb dX12_text_31 (by decide) ?_
      refine lv_icmp_ge (tgt := 69) hx hb dX12_text_32 (by decide) (fun c2 => ?_) (fun c2 => ?_)
      · rw [if_pos c2] at hR
        refine lv_iconst (v := -1) hx hb dX12_text_69 (by decide) ?_
        rw [hQ]
        exact rt_i X hr hlk w hsz rfl rfl (lf2 hR).1 (lf2 hR).2 dX12_text_70
      · rw [if_neg c2] at hR
        refine lv_aload_n hx hb dX12_text_35 rfl (lv_at hl 0 rfl) ?_
        refine lv_aload_n hx hb dX12_text_36 rfl (lv_at hl 0 rfl) ?_
        refine gX12_laws X w lfX12_264 dX12_text_37 ?_
        obtain ⟨T5, r4, h3, hR⟩ := b2_e hR
        refine cVi (k := 52) (As := [.int (gi T 52 13)]) (rest := []) X hl.1 w okX12_readLaw obX12 rfl lmX12_242 (kX12_readLaw h3) ⟨Nat.le_of_ble_eq_true rfl, Nat.le_of_ble_eq_true rfl⟩ ⟨rfl, rfl⟩ ⟨Nat.zero_le _, Nat.zero_le _⟩ rfl rfl (Nat.le_of_ble_eq_true rfl) dX12_text_40 (fun H locs zr4 w => ?_)
        refine lv_iconst (v := -1) hx hb dX12_text_43 (by decide) ?_
        refine lv_icmp_ne (tgt := 69) hx hb dX12_text_44 (by decide) (fun c6 => ?_) (fun c6 => ?_)
        · rw [if_neg c6] at hR
          refine lv_iconst (v := -1) hx hb dX12_text_69 (by decide) ?_
          rw [hQ]
          exact rt_i X hr hlk w hsz rfl rfl (lf2 hR).1 (lf2 hR).2 dX12_text_70
        · rw [if_pos c6] at hR
          refine lv_aload_n hx hb dX12_text_47 rfl (lv_at hl 0 rfl) ?_
          refine lv_iconst (v := 0) hx hb dX12_text_48 (by decide) ?_
          obtain ⟨T7, eT7, hR⟩ := lt_e hR
          refine pX12_size X w lfX12_100 dX12_text_49 (fun H locs w => ?_)
          rw [← eT7] at w
          refine lv_aload_n hx hb dX12_text_52 rfl (lv_at hl 0 rfl) ?_
          refine lv_dup hx hb dX12_text_53 rfl ?_
          refine gX12_laws X w lfX12_264 dX12_text_54 ?_
          refine lv_iconst (v := 1) hx hb dX12_text_57 (by decide) ?_
          refine lv_iadd hx hb dX12_text_58 ?_
          obtain ⟨T8, eT8, hR⟩ := lt_e hR
          refine pX12_laws X w lfX12_264 dX12_text_59 (fun H locs w => ?_)
          rw [← eT8] at w
          refine lv_aload_n hx hb dX12_text_62 rfl (lv_at hl 0 rfl) ?_
          refine gX12_laws X w lfX12_264 dX12_text_63 ?_
          refine lv_iconst (v := 1) hx hb dX12_text_66 (by decide) ?_
          refine lv_isub hx hb dX12_text_67 ?_
          rw [hQ]
          exact rt_i X hr hlk w hsz rfl rfl (lf2 hR).1 (lf2 hR).2 dX12_text_68
  have hl : lv_has ls 2 [(0, .ref (ad 52)), (1, .int p1)] := hl
  unfold fX12_text at hR
  refine lv_iload_n hx hb dX12_text_0 rfl (lv_at hl 1 rfl) ?_
  refine lv_if_ne (tgt := 22) hx hb dX12_text_1 (by decide) (fun c1 => ?_) (fun c1 => ?_)
  · rw [if_neg c1] at hR
    exact J22 p1 T hR _ _ _ w (lv_sub hl [0, 1] rfl)
  · rw [if_pos c1] at hR
    refine lv_aload_n hx hb dX12_text_4 rfl (lv_at hl 0 rfl) ?_
    obtain ⟨T4, r3, h2, hR⟩ := b2_e hR
    refine cVi (k := 52) (As := []) (rest := []) X hl.1 w okX12_readMill obX12 rfl lmX12_239 (kX12_readMill h2) ⟨Nat.le_of_ble_eq_true rfl, Nat.le_of_ble_eq_true rfl⟩ ⟨rfl, rfl⟩ ⟨Nat.zero_le _, Nat.zero_le _⟩ rfl rfl (Nat.le_of_ble_eq_true rfl) dX12_text_5 (fun H locs zr3 w => ?_)
    refine lv_iconst (v := -1) hx hb dX12_text_8 (by decide) ?_
    refine lv_icmp_ne (tgt := 22) hx hb dX12_text_9 (by decide) (fun c5 => ?_) (fun c5 => ?_)
    · rw [if_neg c5] at hR
      exact J22 p1 T4 hR _ _ _ w (lv_sub hl [0, 1] rfl)
    · rw [if_pos c5] at hR
      refine lv_aload_n hx hb dX12_text_12 rfl (lv_at hl 0 rfl) ?_
      refine lv_iconst (v := 0) hx hb dX12_text_13 (by decide) ?_
      obtain ⟨T6, eT6, hR⟩ := lt_e hR
      refine pX12_size X w lfX12_100 dX12_text_14 (fun H locs w => ?_)
      rw [← eT6] at w
      refine lv_aload_n hx hb dX12_text_17 rfl (lv_at hl 0 rfl) ?_
      obtain ⟨T9, r8, h7, hR⟩ := b2_e hR
      refine cVi (k := 52) (As := []) (rest := []) X hl.1 w okX12_takeMill obX12 rfl lmX12_261 (kX12_takeMill h7) ⟨Nat.le_of_ble_eq_true rfl, Nat.le_of_ble_eq_true rfl⟩ ⟨rfl, rfl⟩ ⟨Nat.zero_le _, Nat.zero_le _⟩ rfl rfl (Nat.le_of_ble_eq_true rfl) dX12_text_18 (fun H locs zr8 w => ?_)
      rw [hQ]
      exact rt_i X hr hlk w hsz rfl rfl (lf2 hR).1 (lf2 hR).2 dX12_text_21
/- LooseEndsModel.isEnd(I)Z -/
def fX12_isEnd (N : Nat) (T : SS) (p1 : Int32) : Option (Int32) := bd (fX12_in N p1 0 ((gi T 52 22) - 1)) fun r2 =>
  some r2
set_option maxHeartbeats 4000000 in
set_option maxRecDepth 100000 in
theorem kX12_isEnd {l : Launch} {D : va_G} {dA : Nat → ClassId} {ad : Nat → Nat} {t1 t2 : Nat} {N : Nat} {S T : SS} {o : Nat → Int64} {p1 : Int32} {r : Int32} (hR : fX12_isEnd N T p1 = some r) : KI l D dA ad t1 t2 yX12_isEnd cX12_isEnd 2 .boolean { frames := 1, cells := 0, slots := 0, locals := 22 } [.ref (ad 52), .int p1] S T o r S T := by
  intro sz
  refine en_ (plainFor_of_name (by decide)) (Nat.le_of_ble_eq_true rfl) ?_
  intro p ev s m args below meth c QQ hQ hsz X hr hlk w ls hl
  have hx := X.1
  have hb := X.2.1
  have hl : lv_has ls 2 [(0, .ref (ad 52)), (1, .int p1)] := hl
  unfold fX12_isEnd at hR
  refine lv_iload_n hx hb dX12_isEnd_0 rfl (lv_at hl 1 rfl) ?_
  refine lv_iconst (v := 0) hx hb dX12_isEnd_1 (by decide) ?_
  refine lv_aload_n hx hb dX12_isEnd_2 rfl (lv_at hl 0 rfl) ?_
  refine gX12_ends X w lfX12_245 dX12_isEnd_3 ?_
  refine lv_iconst (v := 1) hx hb dX12_isEnd_6 (by decide) ?_
  refine lv_isub hx hb dX12_isEnd_7 ?_
  obtain ⟨r2, h1, hR⟩ := bd_e hR
  refine cSi (As := [.int p1, .int 0, .int ((gi T 52 22) - 1)]) (rest := []) X hl.1 w okX12_in lmX12_208 (kX12_in h1) ⟨Nat.le_of_ble_eq_true rfl, Nat.le_of_ble_eq_true rfl⟩ ⟨rfl, rfl⟩ ⟨Nat.zero_le _, Nat.zero_le _⟩ rfl rfl (Nat.le_of_ble_eq_true rfl) dX12_isEnd_8 (fun H locs zr2 w => ?_)
  rw [hQ]
  exact rt_i X hr hlk w hsz zr2 rfl rfl (lf1 hR) dX12_isEnd_11
/- LooseEndsModel.isSold(I)Z -/
def fX12_isSold (N : Nat) (T : SS) (p1 : Int32) : Option (Int32) := bd (fX12_has N (ga T 67 28) p1) fun r2 =>
  some r2
set_option maxHeartbeats 4000000 in
set_option maxRecDepth 100000 in
theorem kX12_isSold {l : Launch} {D : va_G} {dA : Nat → ClassId} {ad : Nat → Nat} {t1 t2 : Nat} {N : Nat} {S T : SS} {o : Nat → Int64} {p1 : Int32} {r : Int32} (hR : fX12_isSold N T p1 = some r) : KI l D dA ad t1 t2 yX12_isSold cX12_isSold 2 .boolean { frames := 1, cells := 0, slots := 0, locals := 21 } [.ref (ad 52), .int p1] S T o r S T := by
  intro sz
  refine en_ (plainFor_of_name (by decide)) (Nat.le_of_ble_eq_true rfl) ?_
  intro p ev s m args below meth c QQ hQ hsz X hr hlk w ls hl
  have hx := X.1
  have hb := X.2.1
  have hl : lv_has ls 2 [(0, .ref (ad 52)), (1, .int p1)] := hl
  unfold fX12_isSold at hR
  refine lv_aload_n hx hb dX12_isSold_0 rfl (lv_at hl 0 rfl) ?_
  refine gX12_now X w lfX12_52 dX12_isSold_1 ?_
  refine lv_bipush (v := 28) hx hb dX12_isSold_4 (by decide) ?_
  refine ialT (n := 214) rfl (by decide) X w rfl (by decide) dX12_isSold_6 ?_
  refine lv_iload_n hx hb dX12_isSold_7 rfl (lv_at hl 1 rfl) ?_
  obtain ⟨r2, h1, hR⟩ := bd_e hR
  refine cSi (As := [.int (ga T 67 28), .int p1]) (rest := []) X hl.1 w okX12_has lmX12_219 (kX12_has h1) ⟨Nat.le_of_ble_eq_true rfl, Nat.le_of_ble_eq_true rfl⟩ ⟨rfl, rfl⟩ ⟨Nat.zero_le _, Nat.zero_le _⟩ rfl rfl (Nat.le_of_ble_eq_true rfl) dX12_isSold_8 (fun H locs zr2 w => ?_)
  rw [hQ]
  exact rt_i X hr hlk w hsz zr2 rfl rfl (lf1 hR) dX12_isSold_11
/- LooseEndsModel.isKnotted(I)Z -/
def fX12_isKnotted (N : Nat) (T : SS) (p1 : Int32) : Option (Int32) := ck (inb (14 + p1) 214) <|
  if (ga T 67 (14 + p1)) = (-1) then
  (ck (inb (21 + p1) 214) <|
  if (ga T 67 (21 + p1)) = (-1) then
  (some 0)
  else
  (some 1))
  else
  (some 1)
set_option maxHeartbeats 4000000 in
set_option maxRecDepth 100000 in
theorem kX12_isKnotted {l : Launch} {D : va_G} {dA : Nat → ClassId} {ad : Nat → Nat} {t1 t2 : Nat} {N : Nat} {S T : SS} {o : Nat → Int64} {p1 : Int32} {r : Int32} (hR : fX12_isKnotted N T p1 = some r) : KI l D dA ad t1 t2 yX12_isKnotted cX12_isKnotted 2 .boolean { frames := 0, cells := 0, slots := 0, locals := 0 } [.ref (ad 52), .int p1] S T o r S T := by
  intro sz
  refine en_ (plainFor_of_name (by decide)) (Nat.le_of_ble_eq_true rfl) ?_
  intro p ev s m args below meth c QQ hQ hsz X hr hlk w ls hl
  have hx := X.1
  have hb := X.2.1
  have hl : lv_has ls 2 [(0, .ref (ad 52)), (1, .int p1)] := hl
  unfold fX12_isKnotted at hR
  refine lv_aload_n hx hb dX12_isKnotted_0 rfl (lv_at hl 0 rfl) ?_
  refine gX12_now X w lfX12_52 dX12_isKnotted_1 ?_
  refine lv_bipush (v := 14) hx hb dX12_isKnotted_4 (by decide) ?_
  refine lv_iload_n hx hb dX12_isKnotted_6 rfl (lv_at hl 1 rfl) ?_
  refine lv_iadd hx hb dX12_isKnotted_7 ?_
  obtain ⟨g1, hR⟩ := ck_e hR
  refine ialT (n := 214) rfl (by decide) X w rfl g1 dX12_isKnotted_8 ?_
  refine lv_iconst (v := -1) hx hb dX12_isKnotted_9 (by decide) ?_
  refine lv_icmp_ne (tgt := 26) hx hb dX12_isKnotted_10 (by decide) (fun c2 => ?_) (fun c2 => ?_)
  · rw [if_neg c2] at hR
    refine lv_iconst (v := 1) hx hb dX12_isKnotted_26 (by decide) ?_
    refine lv_goto (tgt := 31) hx hb dX12_isKnotted_27 (by decide) ?_
    rw [hQ]
    exact rt_i X hr hlk w hsz rfl rfl rfl (lf1 hR) dX12_isKnotted_31
  · rw [if_pos c2] at hR
    refine lv_aload_n hx hb dX12_isKnotted_13 rfl (lv_at hl 0 rfl) ?_
    refine gX12_now X w lfX12_52 dX12_isKnotted_14 ?_
    refine lv_bipush (v := 21) hx hb dX12_isKnotted_17 (by decide) ?_
    refine lv_iload_n hx hb dX12_isKnotted_19 rfl (lv_at hl 1 rfl) ?_
    refine lv_iadd hx hb dX12_isKnotted_20 ?_
    obtain ⟨g3, hR⟩ := ck_e hR
    refine ialT (n := 214) rfl (by decide) X w rfl g3 dX12_isKnotted_21 ?_
    refine lv_iconst (v := -1) hx hb dX12_isKnotted_22 (by decide) ?_
    refine lv_icmp_eq (tgt := 30) hx hb dX12_isKnotted_23 (by decide) (fun c4 => ?_) (fun c4 => ?_)
    · rw [if_pos c4] at hR
      refine lv_iconst (v := 0) hx hb dX12_isKnotted_30 (by decide) ?_
      rw [hQ]
      exact rt_i X hr hlk w hsz rfl rfl rfl (lf1 hR) dX12_isKnotted_31
    · rw [if_neg c4] at hR
      refine lv_iconst (v := 1) hx hb dX12_isKnotted_26 (by decide) ?_
      refine lv_goto (tgt := 31) hx hb dX12_isKnotted_27 (by decide) ?_
      rw [hQ]
      exact rt_i X hr hlk w hsz rfl rfl rfl (lf1 hR) dX12_isKnotted_31
/- LooseEndsModel.isLoose(I)Z -/
def fX12_isLoose (N : Nat) (T : SS) (p1 : Int32) : Option (Int32) := bd (fX12_isSold N T p1) fun r2 =>
  if r2 = 0 then
  (bd (fX12_isKnotted N T p1) fun r5 =>
  if r5 = 0 then
  (some 1)
  else
  (some 0))
  else
  (some 0)
set_option maxHeartbeats 4000000 in
set_option maxRecDepth 100000 in
theorem kX12_isLoose {l : Launch} {D : va_G} {dA : Nat → ClassId} {ad : Nat → Nat} {t1 t2 : Nat} {N : Nat} {S T : SS} {o : Nat → Int64} {p1 : Int32} {r : Int32} (hR : fX12_isLoose N T p1 = some r) : KI l D dA ad t1 t2 yX12_isLoose cX12_isLoose 2 .boolean { frames := 2, cells := 0, slots := 0, locals := 42 } [.ref (ad 52), .int p1] S T o r S T := by
  intro sz
  refine en_ (plainFor_of_name (by decide)) (Nat.le_of_ble_eq_true rfl) ?_
  intro p ev s m args below meth c QQ hQ hsz X hr hlk w ls hl
  have hx := X.1
  have hb := X.2.1
  have hl : lv_has ls 2 [(0, .ref (ad 52)), (1, .int p1)] := hl
  unfold fX12_isLoose at hR
  refine lv_aload_n hx hb dX12_isLoose_0 rfl (lv_at hl 0 rfl) ?_
  refine lv_iload_n hx hb dX12_isLoose_1 rfl (lv_at hl 1 rfl) ?_
  obtain ⟨r2, h1, hR⟩ := bd_e hR
  refine cVi (k := 52) (As := [.int p1]) (rest := []) X hl.1 w okX12_isSold obX12 rfl lmX12_267 (kX12_isSold h1) ⟨Nat.le_of_ble_eq_true rfl, Nat.le_of_ble_eq_true rfl⟩ ⟨rfl, rfl⟩ ⟨Nat.zero_le _, Nat.zero_le _⟩ rfl rfl (Nat.le_of_ble_eq_true rfl) dX12_isLoose_2 (fun H locs zr2 w => ?_)
  refine lv_if_ne (tgt := 20) hx hb dX12_isLoose_5 (by decide) (fun c3 => ?_) (fun c3 => ?_)
  · rw [if_neg c3] at hR
    refine lv_iconst (v := 0) hx hb dX12_isLoose_20 (by decide) ?_
    rw [hQ]
    exact rt_i X hr hlk w hsz rfl rfl rfl (lf1 hR) dX12_isLoose_21
  · rw [if_pos c3] at hR
    refine lv_aload_n hx hb dX12_isLoose_8 rfl (lv_at hl 0 rfl) ?_
    refine lv_iload_n hx hb dX12_isLoose_9 rfl (lv_at hl 1 rfl) ?_
    obtain ⟨r5, h4, hR⟩ := bd_e hR
    refine cVi (k := 52) (As := [.int p1]) (rest := []) X hl.1 w okX12_isKnotted obX12 rfl lmX12_270 (kX12_isKnotted h4) ⟨Nat.le_of_ble_eq_true rfl, Nat.le_of_ble_eq_true rfl⟩ ⟨rfl, rfl⟩ ⟨Nat.zero_le _, Nat.zero_le _⟩ rfl rfl (Nat.le_of_ble_eq_true rfl) dX12_isLoose_10 (fun H locs zr5 w => ?_)
    refine lv_if_ne (tgt := 20) hx hb dX12_isLoose_13 (by decide) (fun c6 => ?_) (fun c6 => ?_)
    · rw [if_neg c6] at hR
      refine lv_iconst (v := 0) hx hb dX12_isLoose_20 (by decide) ?_
      rw [hQ]
      exact rt_i X hr hlk w hsz rfl rfl rfl (lf1 hR) dX12_isLoose_21
    · rw [if_pos c6] at hR
      refine lv_iconst (v := 1) hx hb dX12_isLoose_16 (by decide) ?_
      refine lv_goto (tgt := 21) hx hb dX12_isLoose_17 (by decide) ?_
      rw [hQ]
      exact rt_i X hr hlk w hsz rfl rfl rfl (lf1 hR) dX12_isLoose_21
/- LooseEndsModel.firstOf(I)I -/
def fX12_firstOf_l2 (N : Nat) : Nat → Int32 → SS → Option (Int32)
  | 0, _, _ => none
  | n + 1, x2, T => ck (inb (21 + x2) 214) <|
  if (ga T 67 (21 + x2)) = (-1) then
  (some x2)
  else
  (ck (inb (21 + x2) 214) <|
  lt (ga T 67 (21 + x2)) fun v4 =>
  fX12_firstOf_l2 N n v4 T)
def fX12_firstOf (N : Nat) (T : SS) (p1 : Int32) : Option (Int32) := fX12_firstOf_l2 N N p1 T
set_option maxHeartbeats 4000000 in
set_option maxRecDepth 100000 in
theorem kX12_firstOf {l : Launch} {D : va_G} {dA : Nat → ClassId} {ad : Nat → Nat} {t1 t2 : Nat} {N : Nat} {S T : SS} {o : Nat → Int64} {p1 : Int32} {r : Int32} (hR : fX12_firstOf N T p1 = some r) : KI l D dA ad t1 t2 yX12_firstOf cX12_firstOf 3 .int { frames := 0, cells := 0, slots := 0, locals := 0 } [.ref (ad 52), .int p1] S T o r S T := by
  intro sz
  refine en_ (plainFor_of_name (by decide)) (Nat.le_of_ble_eq_true rfl) ?_
  intro p ev s m args below meth c QQ hQ hsz X hr hlk w ls hl
  have hx := X.1
  have hb := X.2.1
  have L2 : ∀ (n : Nat), ∀ (x2 : Int32), fX12_firstOf_l2 N n x2 T = some r → WAT p l ev ({ frames := 0, cells := 0, slots := 0, locals := 0 } : Room) s m args below meth c QQ 3 D dA ad t1 t2 S T o 2 [(0, .ref (ad 52)), (2, .int x2)] [] := by
    intro n
    induction n with
    | zero =>
      intro x2 hR
      exact nomatch hR
    | succ n ih =>
      intro x2 hR H locs ls w hl
      rw [fX12_firstOf_l2] at hR
      refine lv_aload_n hx hb dX12_firstOf_2 rfl (lv_at hl 0 rfl) ?_
      refine gX12_now X w lfX12_52 dX12_firstOf_3 ?_
      refine lv_bipush (v := 21) hx hb dX12_firstOf_6 (by decide) ?_
      refine lv_iload_n hx hb dX12_firstOf_8 rfl (lv_at hl 1 rfl) ?_
      refine lv_iadd hx hb dX12_firstOf_9 ?_
      obtain ⟨g1, hR⟩ := ck_e hR
      refine ialT (n := 214) rfl (by decide) X w rfl g1 dX12_firstOf_10 ?_
      refine lv_iconst (v := -1) hx hb dX12_firstOf_11 (by decide) ?_
      refine lv_icmp_eq (tgt := 28) hx hb dX12_firstOf_12 (by decide) (fun c2 => ?_) (fun c2 => ?_)
      · rw [if_pos c2] at hR
        refine lv_iload_n hx hb dX12_firstOf_28 rfl (lv_at hl 1 rfl) ?_
        rw [hQ]
        exact rt_i X hr hlk w hsz rfl rfl rfl (lf1 hR) dX12_firstOf_29
      · rw [if_neg c2] at hR
        refine lv_aload_n hx hb dX12_firstOf_15 rfl (lv_at hl 0 rfl) ?_
        refine gX12_now X w lfX12_52 dX12_firstOf_16 ?_
        refine lv_bipush (v := 21) hx hb dX12_firstOf_19 (by decide) ?_
        refine lv_iload_n hx hb dX12_firstOf_21 rfl (lv_at hl 1 rfl) ?_
        refine lv_iadd hx hb dX12_firstOf_22 ?_
        obtain ⟨g3, hR⟩ := ck_e hR
        refine ialT (n := 214) rfl (by decide) X w rfl g3 dX12_firstOf_23 ?_
        obtain ⟨v4, ev4, hR⟩ := lt_e hR
        refine nm_i ev4 ?_
        refine lv_istore_n (lv' := [(2, .int v4), (0, .ref (ad 52))]) hx hb dX12_firstOf_24 rfl hl (by decide) rfl (fun ls hl => ?_)
        refine lv_goto (tgt := 2) hx hb dX12_firstOf_25 (by decide) ?_
        exact ih v4 hR _ _ _ w (lv_sub hl [1, 0] rfl)
  have hl : lv_has ls 3 [(0, .ref (ad 52)), (1, .int p1)] := hl
  unfold fX12_firstOf at hR
  refine lv_iload_n hx hb dX12_firstOf_0 rfl (lv_at hl 1 rfl) ?_
  refine lv_istore_n (lv' := [(2, .int p1), (0, .ref (ad 52)), (1, .int p1)]) hx hb dX12_firstOf_1 rfl hl (by decide) rfl (fun ls hl => ?_)
  exact L2 N p1 hR _ _ _ w (lv_sub hl [1, 0] rfl)
/- LooseEndsModel.lastOf(I)I -/
def fX12_lastOf_l2 (N : Nat) : Nat → Int32 → SS → Option (Int32)
  | 0, _, _ => none
  | n + 1, x2, T => ck (inb (14 + x2) 214) <|
  if (ga T 67 (14 + x2)) = (-1) then
  (some x2)
  else
  (ck (inb (14 + x2) 214) <|
  lt (ga T 67 (14 + x2)) fun v4 =>
  fX12_lastOf_l2 N n v4 T)
def fX12_lastOf (N : Nat) (T : SS) (p1 : Int32) : Option (Int32) := fX12_lastOf_l2 N N p1 T
set_option maxHeartbeats 4000000 in
set_option maxRecDepth 100000 in
theorem kX12_lastOf {l : Launch} {D : va_G} {dA : Nat → ClassId} {ad : Nat → Nat} {t1 t2 : Nat} {N : Nat} {S T : SS} {o : Nat → Int64} {p1 : Int32} {r : Int32} (hR : fX12_lastOf N T p1 = some r) : KI l D dA ad t1 t2 yX12_lastOf cX12_lastOf 3 .int { frames := 0, cells := 0, slots := 0, locals := 0 } [.ref (ad 52), .int p1] S T o r S T := by
  intro sz
  refine en_ (plainFor_of_name (by decide)) (Nat.le_of_ble_eq_true rfl) ?_
  intro p ev s m args below meth c QQ hQ hsz X hr hlk w ls hl
  have hx := X.1
  have hb := X.2.1
  have L2 : ∀ (n : Nat), ∀ (x2 : Int32), fX12_lastOf_l2 N n x2 T = some r → WAT p l ev ({ frames := 0, cells := 0, slots := 0, locals := 0 } : Room) s m args below meth c QQ 3 D dA ad t1 t2 S T o 2 [(0, .ref (ad 52)), (2, .int x2)] [] := by
    intro n
    induction n with
    | zero =>
      intro x2 hR
      exact nomatch hR
    | succ n ih =>
      intro x2 hR H locs ls w hl
      rw [fX12_lastOf_l2] at hR
      refine lv_aload_n hx hb dX12_lastOf_2 rfl (lv_at hl 0 rfl) ?_
      refine gX12_now X w lfX12_52 dX12_lastOf_3 ?_
      refine lv_bipush (v := 14) hx hb dX12_lastOf_6 (by decide) ?_
      refine lv_iload_n hx hb dX12_lastOf_8 rfl (lv_at hl 1 rfl) ?_
      refine lv_iadd hx hb dX12_lastOf_9 ?_
      obtain ⟨g1, hR⟩ := ck_e hR
      refine ialT (n := 214) rfl (by decide) X w rfl g1 dX12_lastOf_10 ?_
      refine lv_iconst (v := -1) hx hb dX12_lastOf_11 (by decide) ?_
      refine lv_icmp_eq (tgt := 28) hx hb dX12_lastOf_12 (by decide) (fun c2 => ?_) (fun c2 => ?_)
      · rw [if_pos c2] at hR
        refine lv_iload_n hx hb dX12_lastOf_28 rfl (lv_at hl 1 rfl) ?_
        rw [hQ]
        exact rt_i X hr hlk w hsz rfl rfl rfl (lf1 hR) dX12_lastOf_29
      · rw [if_neg c2] at hR
        refine lv_aload_n hx hb dX12_lastOf_15 rfl (lv_at hl 0 rfl) ?_
        refine gX12_now X w lfX12_52 dX12_lastOf_16 ?_
        refine lv_bipush (v := 14) hx hb dX12_lastOf_19 (by decide) ?_
        refine lv_iload_n hx hb dX12_lastOf_21 rfl (lv_at hl 1 rfl) ?_
        refine lv_iadd hx hb dX12_lastOf_22 ?_
        obtain ⟨g3, hR⟩ := ck_e hR
        refine ialT (n := 214) rfl (by decide) X w rfl g3 dX12_lastOf_23 ?_
        obtain ⟨v4, ev4, hR⟩ := lt_e hR
        refine nm_i ev4 ?_
        refine lv_istore_n (lv' := [(2, .int v4), (0, .ref (ad 52))]) hx hb dX12_lastOf_24 rfl hl (by decide) rfl (fun ls hl => ?_)
        refine lv_goto (tgt := 2) hx hb dX12_lastOf_25 (by decide) ?_
        exact ih v4 hR _ _ _ w (lv_sub hl [1, 0] rfl)
  have hl : lv_has ls 3 [(0, .ref (ad 52)), (1, .int p1)] := hl
  unfold fX12_lastOf at hR
  refine lv_iload_n hx hb dX12_lastOf_0 rfl (lv_at hl 1 rfl) ?_
  refine lv_istore_n (lv' := [(2, .int p1), (0, .ref (ad 52)), (1, .int p1)]) hx hb dX12_lastOf_1 rfl hl (by decide) rfl (fun ls hl => ?_)
  exact L2 N p1 hR _ _ _ w (lv_sub hl [1, 0] rfl)
/- LooseEndsModel.manyOf(I)I -/
def fX12_manyOf_l8 (N : Nat) : Nat → Int32 → Int32 → SS → Option (Int32)
  | 0, _, _, _ => none
  | n + 1, x2, x3, T => if x3 = (-1) then
  (some x2)
  else
  (lt (x2 + 1) fun v2 =>
  ck (inb (14 + x3) 214) <|
  lt (ga T 67 (14 + x3)) fun v4 =>
  fX12_manyOf_l8 N n v2 v4 T)
def fX12_manyOf (N : Nat) (T : SS) (p1 : Int32) : Option (Int32) := bd (fX12_firstOf N T p1) fun r2 =>
  fX12_manyOf_l8 N N 0 r2 T
set_option maxHeartbeats 4000000 in
set_option maxRecDepth 100000 in
theorem kX12_manyOf {l : Launch} {D : va_G} {dA : Nat → ClassId} {ad : Nat → Nat} {t1 t2 : Nat} {N : Nat} {S T : SS} {o : Nat → Int64} {p1 : Int32} {r : Int32} (hR : fX12_manyOf N T p1 = some r) : KI l D dA ad t1 t2 yX12_manyOf cX12_manyOf 4 .int { frames := 1, cells := 0, slots := 0, locals := 22 } [.ref (ad 52), .int p1] S T o r S T := by
  intro sz
  refine en_ (plainFor_of_name (by decide)) (Nat.le_of_ble_eq_true rfl) ?_
  intro p ev s m args below meth c QQ hQ hsz X hr hlk w ls hl
  have hx := X.1
  have hb := X.2.1
  have L8 : ∀ (n : Nat), ∀ (x2 : Int32) (x3 : Int32), fX12_manyOf_l8 N n x2 x3 T = some r → WAT p l ev ({ frames := 1, cells := 0, slots := 0, locals := 22 } : Room) s m args below meth c QQ 4 D dA ad t1 t2 S T o 8 [(0, .ref (ad 52)), (2, .int x2), (3, .int x3)] [] := by
    intro n
    induction n with
    | zero =>
      intro x2 x3 hR
      exact nomatch hR
    | succ n ih =>
      intro x2 x3 hR H locs ls w hl
      rw [fX12_manyOf_l8] at hR
      refine lv_iload_n hx hb dX12_manyOf_8 rfl (lv_at hl 2 rfl) ?_
      refine lv_iconst (v := -1) hx hb dX12_manyOf_9 (by decide) ?_
      refine lv_icmp_eq (tgt := 29) hx hb dX12_manyOf_10 (by decide) (fun c1 => ?_) (fun c1 => ?_)
      · rw [if_pos c1] at hR
        refine lv_iload_n hx hb dX12_manyOf_29 rfl (lv_at hl 1 rfl) ?_
        rw [hQ]
        exact rt_i X hr hlk w hsz rfl rfl rfl (lf1 hR) dX12_manyOf_30
      · rw [if_neg c1] at hR
        obtain ⟨v2, ev2, hR⟩ := lt_e hR
        refine lv_iinc (v := v2) (lv' := [(2, .int v2), (0, .ref (ad 52)), (3, .int x3)]) hx hb dX12_manyOf_13 hl (k := 1) rfl (by rw [ev2]; rfl) (by decide) rfl (fun ls hl => ?_)
        refine lv_aload_n hx hb dX12_manyOf_16 rfl (lv_at hl 1 rfl) ?_
        refine gX12_now X w lfX12_52 dX12_manyOf_17 ?_
        refine lv_bipush (v := 14) hx hb dX12_manyOf_20 (by decide) ?_
        refine lv_iload_n hx hb dX12_manyOf_22 rfl (lv_at hl 2 rfl) ?_
        refine lv_iadd hx hb dX12_manyOf_23 ?_
        obtain ⟨g3, hR⟩ := ck_e hR
        refine ialT (n := 214) rfl (by decide) X w rfl g3 dX12_manyOf_24 ?_
        obtain ⟨v4, ev4, hR⟩ := lt_e hR
        refine nm_i ev4 ?_
        refine lv_istore_n (lv' := [(3, .int v4), (2, .int v2), (0, .ref (ad 52))]) hx hb dX12_manyOf_25 rfl hl (by decide) rfl (fun ls hl => ?_)
        refine lv_goto (tgt := 8) hx hb dX12_manyOf_26 (by decide) ?_
        exact ih v2 v4 hR _ _ _ w (lv_sub hl [2, 1, 0] rfl)
  have hl : lv_has ls 4 [(0, .ref (ad 52)), (1, .int p1)] := hl
  unfold fX12_manyOf at hR
  refine lv_iconst (v := 0) hx hb dX12_manyOf_0 (by decide) ?_
  refine lv_istore_n (lv' := [(2, .int 0), (0, .ref (ad 52)), (1, .int p1)]) hx hb dX12_manyOf_1 rfl hl (by decide) rfl (fun ls hl => ?_)
  refine lv_aload_n hx hb dX12_manyOf_2 rfl (lv_at hl 1 rfl) ?_
  refine lv_iload_n hx hb dX12_manyOf_3 rfl (lv_at hl 2 rfl) ?_
  obtain ⟨r2, h1, hR⟩ := bd_e hR
  refine cVi (k := 52) (As := [.int p1]) (rest := []) X hl.1 w okX12_firstOf obX12 rfl lmX12_273 (kX12_firstOf h1) ⟨Nat.le_of_ble_eq_true rfl, Nat.le_of_ble_eq_true rfl⟩ ⟨rfl, rfl⟩ ⟨Nat.zero_le _, Nat.zero_le _⟩ rfl rfl (Nat.le_of_ble_eq_true rfl) dX12_manyOf_4 (fun H locs zr2 w => ?_)
  refine lv_istore_n (lv' := [(3, .int r2), (2, .int 0), (0, .ref (ad 52)), (1, .int p1)]) hx hb dX12_manyOf_7 rfl hl (by decide) rfl (fun ls hl => ?_)
  exact L8 N 0 r2 hR _ _ _ w (lv_sub hl [2, 1, 0] rfl)
/- LooseEndsModel.lengthOf(I)I -/
def fX12_lengthOf_l8 (N : Nat) : Nat → Int32 → Int32 → SS → Option (Int32)
  | 0, _, _, _ => none
  | n + 1, x2, x3, T => if x3 = (-1) then
  (some x2)
  else
  (ck (inb (7 + x3) 214) <|
  lt (x2 + (ga T 67 (7 + x3))) fun v3 =>
  ck (inb (14 + x3) 214) <|
  lt (ga T 67 (14 + x3)) fun v5 =>
  fX12_lengthOf_l8 N n v3 v5 T)
def fX12_lengthOf (N : Nat) (T : SS) (p1 : Int32) : Option (Int32) := bd (fX12_firstOf N T p1) fun r2 =>
  fX12_lengthOf_l8 N N 0 r2 T
set_option maxHeartbeats 4000000 in
set_option maxRecDepth 100000 in
theorem kX12_lengthOf {l : Launch} {D : va_G} {dA : Nat → ClassId} {ad : Nat → Nat} {t1 t2 : Nat} {N : Nat} {S T : SS} {o : Nat → Int64} {p1 : Int32} {r : Int32} (hR : fX12_lengthOf N T p1 = some r) : KI l D dA ad t1 t2 yX12_lengthOf cX12_lengthOf 4 .int { frames := 1, cells := 0, slots := 0, locals := 22 } [.ref (ad 52), .int p1] S T o r S T := by
  intro sz
  refine en_ (plainFor_of_name (by decide)) (Nat.le_of_ble_eq_true rfl) ?_
  intro p ev s m args below meth c QQ hQ hsz X hr hlk w ls hl
  have hx := X.1
  have hb := X.2.1
  have L8 : ∀ (n : Nat), ∀ (x2 : Int32) (x3 : Int32), fX12_lengthOf_l8 N n x2 x3 T = some r → WAT p l ev ({ frames := 1, cells := 0, slots := 0, locals := 22 } : Room) s m args below meth c QQ 4 D dA ad t1 t2 S T o 8 [(0, .ref (ad 52)), (2, .int x2), (3, .int x3)] [] := by
    intro n
    induction n with
    | zero =>
      intro x2 x3 hR
      exact nomatch hR
    | succ n ih =>
      intro x2 x3 hR H locs ls w hl
      rw [fX12_lengthOf_l8] at hR
      refine lv_iload_n hx hb dX12_lengthOf_8 rfl (lv_at hl 2 rfl) ?_
      refine lv_iconst (v := -1) hx hb dX12_lengthOf_9 (by decide) ?_
      refine lv_icmp_eq (tgt := 38) hx hb dX12_lengthOf_10 (by decide) (fun c1 => ?_) (fun c1 => ?_)
      · rw [if_pos c1] at hR
        refine lv_iload_n hx hb dX12_lengthOf_38 rfl (lv_at hl 1 rfl) ?_
        rw [hQ]
        exact rt_i X hr hlk w hsz rfl rfl rfl (lf1 hR) dX12_lengthOf_39
      · rw [if_neg c1] at hR
        refine lv_iload_n hx hb dX12_lengthOf_13 rfl (lv_at hl 1 rfl) ?_
        refine lv_aload_n hx hb dX12_lengthOf_14 rfl (lv_at hl 0 rfl) ?_
        refine gX12_now X w lfX12_52 dX12_lengthOf_15 ?_
        refine lv_bipush (v := 7) hx hb dX12_lengthOf_18 (by decide) ?_
        refine lv_iload_n hx hb dX12_lengthOf_20 rfl (lv_at hl 2 rfl) ?_
        refine lv_iadd hx hb dX12_lengthOf_21 ?_
        obtain ⟨g2, hR⟩ := ck_e hR
        refine ialT (n := 214) rfl (by decide) X w rfl g2 dX12_lengthOf_22 ?_
        refine lv_iadd hx hb dX12_lengthOf_23 ?_
        obtain ⟨v3, ev3, hR⟩ := lt_e hR
        refine nm_i ev3 ?_
        refine lv_istore_n (lv' := [(2, .int v3), (0, .ref (ad 52)), (3, .int x3)]) hx hb dX12_lengthOf_24 rfl hl (by decide) rfl (fun ls hl => ?_)
        refine lv_aload_n hx hb dX12_lengthOf_25 rfl (lv_at hl 1 rfl) ?_
        refine gX12_now X w lfX12_52 dX12_lengthOf_26 ?_
        refine lv_bipush (v := 14) hx hb dX12_lengthOf_29 (by decide) ?_
        refine lv_iload_n hx hb dX12_lengthOf_31 rfl (lv_at hl 2 rfl) ?_
        refine lv_iadd hx hb dX12_lengthOf_32 ?_
        obtain ⟨g4, hR⟩ := ck_e hR
        refine ialT (n := 214) rfl (by decide) X w rfl g4 dX12_lengthOf_33 ?_
        obtain ⟨v5, ev5, hR⟩ := lt_e hR
        refine nm_i ev5 ?_
        refine lv_istore_n (lv' := [(3, .int v5), (2, .int v3), (0, .ref (ad 52))]) hx hb dX12_lengthOf_34 rfl hl (by decide) rfl (fun ls hl => ?_)
        refine lv_goto (tgt := 8) hx hb dX12_lengthOf_35 (by decide) ?_
        exact ih v3 v5 hR _ _ _ w (lv_sub hl [2, 1, 0] rfl)
  have hl : lv_has ls 4 [(0, .ref (ad 52)), (1, .int p1)] := hl
  unfold fX12_lengthOf at hR
  refine lv_iconst (v := 0) hx hb dX12_lengthOf_0 (by decide) ?_
  refine lv_istore_n (lv' := [(2, .int 0), (0, .ref (ad 52)), (1, .int p1)]) hx hb dX12_lengthOf_1 rfl hl (by decide) rfl (fun ls hl => ?_)
  refine lv_aload_n hx hb dX12_lengthOf_2 rfl (lv_at hl 1 rfl) ?_
  refine lv_iload_n hx hb dX12_lengthOf_3 rfl (lv_at hl 2 rfl) ?_
  obtain ⟨r2, h1, hR⟩ := bd_e hR
  refine cVi (k := 52) (As := [.int p1]) (rest := []) X hl.1 w okX12_firstOf obX12 rfl lmX12_273 (kX12_firstOf h1) ⟨Nat.le_of_ble_eq_true rfl, Nat.le_of_ble_eq_true rfl⟩ ⟨rfl, rfl⟩ ⟨Nat.zero_le _, Nat.zero_le _⟩ rfl rfl (Nat.le_of_ble_eq_true rfl) dX12_lengthOf_4 (fun H locs zr2 w => ?_)
  refine lv_istore_n (lv' := [(3, .int r2), (2, .int 0), (0, .ref (ad 52)), (1, .int p1)]) hx hb dX12_lengthOf_7 rfl hl (by decide) rfl (fun ls hl => ?_)
  exact L8 N 0 r2 hR _ _ _ w (lv_sub hl [2, 1, 0] rfl)
/- LooseEndsModel.goesBy(IIIII)Z -/
def fX12_goesBy (N : Nat) (T : SS) (p1 : Int32) (p2 : Int32) (p3 : Int32) (p4 : Int32) (p5 : Int32) : Option (SS × Int32) := if (gi T 52 25) = (-1) then
  (if ((((ga T 65 0) + 1) - p1) - (2 * p2)) ≤ 0 then
  (some (T, 0))
  else
  (some (T, 1)))
  else
  (lt (pa T 61 0 p1) fun T2 =>
  lt (pa T2 61 1 p2) fun T3 =>
  lt (pa T3 61 2 p3) fun T4 =>
  lt (pa T4 61 3 (ga T4 65 0)) fun T5 =>
  lt (pa T5 61 4 p4) fun T6 =>
  lt (pa T6 61 5 p5) fun T7 =>
  b2 (fX12_worthOf N T7 (gi T7 52 25)) fun T10 r9 =>
  if r9 ≤ 0 then
  (some (T10, 0))
  else
  (some (T10, 1)))
set_option maxHeartbeats 4000000 in
set_option maxRecDepth 100000 in
theorem kX12_goesBy {l : Launch} {D : va_G} {dA : Nat → ClassId} {ad : Nat → Nat} {t1 t2 : Nat} {N : Nat} {S T : SS} {o : Nat → Int64} {p1 : Int32} {p2 : Int32} {p3 : Int32} {p4 : Int32} {p5 : Int32} {r : Int32} {T' : SS} (hR : fX12_goesBy N T p1 p2 p3 p4 p5 = some (T', r)) : KI l D dA ad t1 t2 yX12_goesBy cX12_goesBy 6 .boolean { frames := 5, cells := 0, slots := 0, locals := 109 } [.ref (ad 52), .int p1, .int p2, .int p3, .int p4, .int p5] S T o r S T' := by
  intro sz
  refine en_ (plainFor_of_name (by decide)) (Nat.le_of_ble_eq_true rfl) ?_
  intro p ev s m args below meth c QQ hQ hsz X hr hlk w ls hl
  have hx := X.1
  have hb := X.2.1
  have hl : lv_has ls 6 [(0, .ref (ad 52)), (1, .int p1), (2, .int p2), (3, .int p3), (4, .int p4), (5, .int p5)] := hl
  unfold fX12_goesBy at hR
  refine lv_aload_n hx hb dX12_goesBy_0 rfl (lv_at hl 0 rfl) ?_
  refine gX12_holding X w lfX12_58 dX12_goesBy_1 ?_
  refine lv_iconst (v := -1) hx hb dX12_goesBy_4 (by decide) ?_
  refine lv_icmp_ne (tgt := 31) hx hb dX12_goesBy_5 (by decide) (fun c1 => ?_) (fun c1 => ?_)
  · rw [if_neg c1] at hR
    refine lv_aload_n hx hb dX12_goesBy_31 rfl (lv_at hl 0 rfl) ?_
    refine gX12_letters X w lfX12_34 dX12_goesBy_32 ?_
    refine lv_iconst (v := 0) hx hb dX12_goesBy_35 (by decide) ?_
    refine lv_iload_n hx hb dX12_goesBy_36 rfl (lv_at hl 1 rfl) ?_
    obtain ⟨T2, eT2, hR⟩ := lt_e hR
    refine iasT (n := 6) rfl (by decide) X w rfl (by decide) dX12_goesBy_37 (fun H locs w => ?_)
    rw [← eT2] at w
    refine lv_aload_n hx hb dX12_goesBy_38 rfl (lv_at hl 0 rfl) ?_
    refine gX12_letters X w lfX12_34 dX12_goesBy_39 ?_
    refine lv_iconst (v := 1) hx hb dX12_goesBy_42 (by decide) ?_
    refine lv_iload_n hx hb dX12_goesBy_43 rfl (lv_at hl 2 rfl) ?_
    obtain ⟨T3, eT3, hR⟩ := lt_e hR
    refine iasT (n := 6) rfl (by decide) X w rfl (by decide) dX12_goesBy_44 (fun H locs w => ?_)
    rw [← eT3] at w
    refine lv_aload_n hx hb dX12_goesBy_45 rfl (lv_at hl 0 rfl) ?_
    refine gX12_letters X w lfX12_34 dX12_goesBy_46 ?_
    refine lv_iconst (v := 2) hx hb dX12_goesBy_49 (by decide) ?_
    refine lv_iload_n hx hb dX12_goesBy_50 rfl (lv_at hl 3 rfl) ?_
    obtain ⟨T4, eT4, hR⟩ := lt_e hR
    refine iasT (n := 6) rfl (by decide) X w rfl (by decide) dX12_goesBy_51 (fun H locs w => ?_)
    rw [← eT4] at w
    refine lv_aload_n hx hb dX12_goesBy_52 rfl (lv_at hl 0 rfl) ?_
    refine gX12_letters X w lfX12_34 dX12_goesBy_53 ?_
    refine lv_iconst (v := 3) hx hb dX12_goesBy_56 (by decide) ?_
    refine lv_aload_n hx hb dX12_goesBy_57 rfl (lv_at hl 0 rfl) ?_
    refine gX12_rule X w lfX12_46 dX12_goesBy_58 ?_
    refine lv_iconst (v := 0) hx hb dX12_goesBy_61 (by decide) ?_
    refine ialT (n := 4) rfl (by decide) X w rfl (by decide) dX12_goesBy_62 ?_
    obtain ⟨T5, eT5, hR⟩ := lt_e hR
    refine iasT (n := 6) rfl (by decide) X w rfl (by decide) dX12_goesBy_63 (fun H locs w => ?_)
    rw [← eT5] at w
    refine lv_aload_n hx hb dX12_goesBy_64 rfl (lv_at hl 0 rfl) ?_
    refine gX12_letters X w lfX12_34 dX12_goesBy_65 ?_
    refine lv_iconst (v := 4) hx hb dX12_goesBy_68 (by decide) ?_
    refine lv_iload hx hb dX12_goesBy_69 (lv_at hl 4 rfl) ?_
    obtain ⟨T6, eT6, hR⟩ := lt_e hR
    refine iasT (n := 6) rfl (by decide) X w rfl (by decide) dX12_goesBy_71 (fun H locs w => ?_)
    rw [← eT6] at w
    refine lv_aload_n hx hb dX12_goesBy_72 rfl (lv_at hl 0 rfl) ?_
    refine gX12_letters X w lfX12_34 dX12_goesBy_73 ?_
    refine lv_iconst (v := 5) hx hb dX12_goesBy_76 (by decide) ?_
    refine lv_iload hx hb dX12_goesBy_77 (lv_at hl 5 rfl) ?_
    obtain ⟨T7, eT7, hR⟩ := lt_e hR
    refine iasT (n := 6) rfl (by decide) X w rfl (by decide) dX12_goesBy_79 (fun H locs w => ?_)
    rw [← eT7] at w
    refine lv_aload_n hx hb dX12_goesBy_80 rfl (lv_at hl 0 rfl) ?_
    refine lv_aload_n hx hb dX12_goesBy_81 rfl (lv_at hl 0 rfl) ?_
    refine gX12_holding X w lfX12_58 dX12_goesBy_82 ?_
    obtain ⟨T10, r9, h8, hR⟩ := b2_e hR
    refine cVi (k := 52) (As := [.int (gi T7 52 25)]) (rest := []) X hl.1 w okX12_worthOf obX12 rfl lmX12_276 (kX12_worthOf h8) ⟨Nat.le_of_ble_eq_true rfl, Nat.le_of_ble_eq_true rfl⟩ ⟨rfl, rfl⟩ ⟨Nat.zero_le _, Nat.zero_le _⟩ rfl rfl (Nat.le_of_ble_eq_true rfl) dX12_goesBy_85 (fun H locs zr9 w => ?_)
    refine lv_if_le (tgt := 95) hx hb dX12_goesBy_88 (by decide) (fun c11 => ?_) (fun c11 => ?_)
    · rw [if_pos c11] at hR
      refine lv_iconst (v := 0) hx hb dX12_goesBy_95 (by decide) ?_
      rw [hQ]
      exact rt_i X hr hlk w hsz rfl rfl (lf2 hR).1 (lf2 hR).2 dX12_goesBy_96
    · rw [if_neg c11] at hR
      refine lv_iconst (v := 1) hx hb dX12_goesBy_91 (by decide) ?_
      refine lv_goto (tgt := 96) hx hb dX12_goesBy_92 (by decide) ?_
      rw [hQ]
      exact rt_i X hr hlk w hsz rfl rfl (lf2 hR).1 (lf2 hR).2 dX12_goesBy_96
  · rw [if_pos c1] at hR
    refine lv_aload_n hx hb dX12_goesBy_8 rfl (lv_at hl 0 rfl) ?_
    refine gX12_rule X w lfX12_46 dX12_goesBy_9 ?_
    refine lv_iconst (v := 0) hx hb dX12_goesBy_12 (by decide) ?_
    refine ialT (n := 4) rfl (by decide) X w rfl (by decide) dX12_goesBy_13 ?_
    refine lv_iconst (v := 1) hx hb dX12_goesBy_14 (by decide) ?_
    refine lv_iadd hx hb dX12_goesBy_15 ?_
    refine lv_iload_n hx hb dX12_goesBy_16 rfl (lv_at hl 1 rfl) ?_
    refine lv_isub hx hb dX12_goesBy_17 ?_
    refine lv_iconst (v := 2) hx hb dX12_goesBy_18 (by decide) ?_
    refine lv_iload_n hx hb dX12_goesBy_19 rfl (lv_at hl 2 rfl) ?_
    refine lv_imul hx hb dX12_goesBy_20 ?_
    refine lv_isub hx hb dX12_goesBy_21 ?_
    refine lv_if_le (tgt := 29) hx hb dX12_goesBy_22 (by decide) (fun c12 => ?_) (fun c12 => ?_)
    · rw [if_pos c12] at hR
      refine lv_iconst (v := 0) hx hb dX12_goesBy_29 (by decide) ?_
      rw [hQ]
      exact rt_i X hr hlk w hsz rfl rfl (lf2 hR).1 (lf2 hR).2 dX12_goesBy_30
    · rw [if_neg c12] at hR
      refine lv_iconst (v := 1) hx hb dX12_goesBy_25 (by decide) ?_
      refine lv_goto (tgt := 30) hx hb dX12_goesBy_26 (by decide) ?_
      rw [hQ]
      exact rt_i X hr hlk w hsz rfl rfl (lf2 hR).1 (lf2 hR).2 dX12_goesBy_30
/- LooseEndsModel.goesWith(III)Z -/
def fX12_goesWith (N : Nat) (T : SS) (p1 : Int32) (p2 : Int32) (p3 : Int32) : Option (SS × Int32) := ck (inb (0 + p1) 214) <|
  ck (inb (0 + p2) 214) <|
  bd (fX12_of N T p1 1) fun r4 =>
  bd (fX12_of N T p2 1) fun r6 =>
  ck (inb (7 + p1) 214) <|
  ck (inb (7 + p2) 214) <|
  b2 (fX12_goesBy N T (ab ((ga T 67 (0 + p1)) - (ga T 67 (0 + p2)))) (ab (r4 - r6)) ((ga T 67 (7 + p1)) + (ga T 67 (7 + p2))) p3 (ga T 67 32)) fun T11 r10 =>
  some (T11, r10)
set_option maxHeartbeats 4000000 in
set_option maxRecDepth 100000 in
theorem kX12_goesWith {l : Launch} {D : va_G} {dA : Nat → ClassId} {ad : Nat → Nat} {t1 t2 : Nat} {N : Nat} {S T : SS} {o : Nat → Int64} {p1 : Int32} {p2 : Int32} {p3 : Int32} {r : Int32} {T' : SS} (hR : fX12_goesWith N T p1 p2 p3 = some (T', r)) : KI l D dA ad t1 t2 yX12_goesWith cX12_goesWith 4 .boolean { frames := 6, cells := 0, slots := 0, locals := 134 } [.ref (ad 52), .int p1, .int p2, .int p3] S T o r S T' := by
  intro sz
  refine en_ (plainFor_of_name (by decide)) (Nat.le_of_ble_eq_true rfl) ?_
  intro p ev s m args below meth c QQ hQ hsz X hr hlk w ls hl
  have hx := X.1
  have hb := X.2.1
  have hl : lv_has ls 4 [(0, .ref (ad 52)), (1, .int p1), (2, .int p2), (3, .int p3)] := hl
  unfold fX12_goesWith at hR
  refine lv_aload_n hx hb dX12_goesWith_0 rfl (lv_at hl 0 rfl) ?_
  refine lv_aload_n hx hb dX12_goesWith_1 rfl (lv_at hl 0 rfl) ?_
  refine gX12_now X w lfX12_52 dX12_goesWith_2 ?_
  refine lv_iconst (v := 0) hx hb dX12_goesWith_5 (by decide) ?_
  refine lv_iload_n hx hb dX12_goesWith_6 rfl (lv_at hl 1 rfl) ?_
  refine lv_iadd hx hb dX12_goesWith_7 ?_
  obtain ⟨g1, hR⟩ := ck_e hR
  refine ialT (n := 214) rfl (by decide) X w rfl g1 dX12_goesWith_8 ?_
  refine lv_aload_n hx hb dX12_goesWith_9 rfl (lv_at hl 0 rfl) ?_
  refine gX12_now X w lfX12_52 dX12_goesWith_10 ?_
  refine lv_iconst (v := 0) hx hb dX12_goesWith_13 (by decide) ?_
  refine lv_iload_n hx hb dX12_goesWith_14 rfl (lv_at hl 2 rfl) ?_
  refine lv_iadd hx hb dX12_goesWith_15 ?_
  obtain ⟨g2, hR⟩ := ck_e hR
  refine ialT (n := 214) rfl (by decide) X w rfl g2 dX12_goesWith_16 ?_
  refine lv_isub hx hb dX12_goesWith_17 ?_
  refine abI X hl.1 lmX12_279 ⟨Nat.le_of_ble_eq_true rfl, Nat.le_of_ble_eq_true rfl⟩ ⟨Nat.zero_le _, Nat.zero_le _⟩ dX12_goesWith_18 ?_
  refine lv_aload_n hx hb dX12_goesWith_21 rfl (lv_at hl 0 rfl) ?_
  refine lv_iload_n hx hb dX12_goesWith_22 rfl (lv_at hl 1 rfl) ?_
  refine lv_iconst (v := 1) hx hb dX12_goesWith_23 (by decide) ?_
  obtain ⟨r4, h3, hR⟩ := bd_e hR
  refine cVi (k := 52) (As := [.int p1, .int 1]) (rest := [.int (ab ((ga T 67 (0 + p1)) - (ga T 67 (0 + p2)))), .ref (ad 52)]) X hl.1 w okX12_of obX12 rfl lmX12_248 (kX12_of h3) ⟨Nat.le_of_ble_eq_true rfl, Nat.le_of_ble_eq_true rfl⟩ ⟨rfl, rfl⟩ ⟨Nat.zero_le _, Nat.zero_le _⟩ rfl rfl (Nat.le_of_ble_eq_true rfl) dX12_goesWith_24 (fun H locs zr4 w => ?_)
  refine lv_aload_n hx hb dX12_goesWith_27 rfl (lv_at hl 0 rfl) ?_
  refine lv_iload_n hx hb dX12_goesWith_28 rfl (lv_at hl 2 rfl) ?_
  refine lv_iconst (v := 1) hx hb dX12_goesWith_29 (by decide) ?_
  obtain ⟨r6, h5, hR⟩ := bd_e hR
  refine cVi (k := 52) (As := [.int p2, .int 1]) (rest := [.int r4, .int (ab ((ga T 67 (0 + p1)) - (ga T 67 (0 + p2)))), .ref (ad 52)]) X hl.1 w okX12_of obX12 rfl lmX12_248 (kX12_of h5) ⟨Nat.le_of_ble_eq_true rfl, Nat.le_of_ble_eq_true rfl⟩ ⟨rfl, rfl⟩ ⟨Nat.zero_le _, Nat.zero_le _⟩ rfl rfl (Nat.le_of_ble_eq_true rfl) dX12_goesWith_30 (fun H locs zr6 w => ?_)
  refine lv_isub hx hb dX12_goesWith_33 ?_
  refine abI X hl.1 lmX12_279 ⟨Nat.le_of_ble_eq_true rfl, Nat.le_of_ble_eq_true rfl⟩ ⟨Nat.zero_le _, Nat.zero_le _⟩ dX12_goesWith_34 ?_
  refine lv_aload_n hx hb dX12_goesWith_37 rfl (lv_at hl 0 rfl) ?_
  refine gX12_now X w lfX12_52 dX12_goesWith_38 ?_
  refine lv_bipush (v := 7) hx hb dX12_goesWith_41 (by decide) ?_
  refine lv_iload_n hx hb dX12_goesWith_43 rfl (lv_at hl 1 rfl) ?_
  refine lv_iadd hx hb dX12_goesWith_44 ?_
  obtain ⟨g7, hR⟩ := ck_e hR
  refine ialT (n := 214) rfl (by decide) X w rfl g7 dX12_goesWith_45 ?_
  refine lv_aload_n hx hb dX12_goesWith_46 rfl (lv_at hl 0 rfl) ?_
  refine gX12_now X w lfX12_52 dX12_goesWith_47 ?_
  refine lv_bipush (v := 7) hx hb dX12_goesWith_50 (by decide) ?_
  refine lv_iload_n hx hb dX12_goesWith_52 rfl (lv_at hl 2 rfl) ?_
  refine lv_iadd hx hb dX12_goesWith_53 ?_
  obtain ⟨g8, hR⟩ := ck_e hR
  refine ialT (n := 214) rfl (by decide) X w rfl g8 dX12_goesWith_54 ?_
  refine lv_iadd hx hb dX12_goesWith_55 ?_
  refine lv_iload_n hx hb dX12_goesWith_56 rfl (lv_at hl 3 rfl) ?_
  refine lv_aload_n hx hb dX12_goesWith_57 rfl (lv_at hl 0 rfl) ?_
  refine gX12_now X w lfX12_52 dX12_goesWith_58 ?_
  refine lv_bipush (v := 32) hx hb dX12_goesWith_61 (by decide) ?_
  refine ialT (n := 214) rfl (by decide) X w rfl (by decide) dX12_goesWith_63 ?_
  obtain ⟨T11, r10, h9, hR⟩ := b2_e hR
  refine cVi (k := 52) (As := [.int (ab ((ga T 67 (0 + p1)) - (ga T 67 (0 + p2)))), .int (ab (r4 - r6)), .int ((ga T 67 (7 + p1)) + (ga T 67 (7 + p2))), .int p3, .int (ga T 67 32)]) (rest := []) X hl.1 w okX12_goesBy obX12 rfl lmX12_282 (kX12_goesBy h9) ⟨Nat.le_of_ble_eq_true rfl, Nat.le_of_ble_eq_true rfl⟩ ⟨rfl, rfl⟩ ⟨Nat.zero_le _, Nat.zero_le _⟩ rfl rfl (Nat.le_of_ble_eq_true rfl) dX12_goesWith_64 (fun H locs zr10 w => ?_)
  rw [hQ]
  exact rt_i X hr hlk w hsz zr10 rfl (lf2 hR).1 (lf2 hR).2 dX12_goesWith_67
/- LooseEndsModel.fitsNow(II)Z -/
def fX12_fitsNow (N : Nat) (T : SS) (p1 : Int32) (p2 : Int32) : Option (SS × Int32) := bd (fX12_manyOf N T p1) fun r2 =>
  b2 (fX12_goesWith N T p1 p2 r2) fun T5 r4 =>
  some (T5, r4)
set_option maxHeartbeats 4000000 in
set_option maxRecDepth 100000 in
theorem kX12_fitsNow {l : Launch} {D : va_G} {dA : Nat → ClassId} {ad : Nat → Nat} {t1 t2 : Nat} {N : Nat} {S T : SS} {o : Nat → Int64} {p1 : Int32} {p2 : Int32} {r : Int32} {T' : SS} (hR : fX12_fitsNow N T p1 p2 = some (T', r)) : KI l D dA ad t1 t2 yX12_fitsNow cX12_fitsNow 3 .boolean { frames := 7, cells := 0, slots := 0, locals := 157 } [.ref (ad 52), .int p1, .int p2] S T o r S T' := by
  intro sz
  refine en_ (plainFor_of_name (by decide)) (Nat.le_of_ble_eq_true rfl) ?_
  intro p ev s m args below meth c QQ hQ hsz X hr hlk w ls hl
  have hx := X.1
  have hb := X.2.1
  have hl : lv_has ls 3 [(0, .ref (ad 52)), (1, .int p1), (2, .int p2)] := hl
  unfold fX12_fitsNow at hR
  refine lv_aload_n hx hb dX12_fitsNow_0 rfl (lv_at hl 0 rfl) ?_
  refine lv_iload_n hx hb dX12_fitsNow_1 rfl (lv_at hl 1 rfl) ?_
  refine lv_iload_n hx hb dX12_fitsNow_2 rfl (lv_at hl 2 rfl) ?_
  refine lv_aload_n hx hb dX12_fitsNow_3 rfl (lv_at hl 0 rfl) ?_
  refine lv_iload_n hx hb dX12_fitsNow_4 rfl (lv_at hl 1 rfl) ?_
  obtain ⟨r2, h1, hR⟩ := bd_e hR
  refine cVi (k := 52) (As := [.int p1]) (rest := [.int p2, .int p1, .ref (ad 52)]) X hl.1 w okX12_manyOf obX12 rfl lmX12_286 (kX12_manyOf h1) ⟨Nat.le_of_ble_eq_true rfl, Nat.le_of_ble_eq_true rfl⟩ ⟨rfl, rfl⟩ ⟨Nat.zero_le _, Nat.zero_le _⟩ rfl rfl (Nat.le_of_ble_eq_true rfl) dX12_fitsNow_5 (fun H locs zr2 w => ?_)
  obtain ⟨T5, r4, h3, hR⟩ := b2_e hR
  refine cVi (k := 52) (As := [.int p1, .int p2, .int r2]) (rest := []) X hl.1 w okX12_goesWith obX12 rfl lmX12_289 (kX12_goesWith h3) ⟨Nat.le_of_ble_eq_true rfl, Nat.le_of_ble_eq_true rfl⟩ ⟨rfl, rfl⟩ ⟨Nat.zero_le _, Nat.zero_le _⟩ rfl rfl (Nat.le_of_ble_eq_true rfl) dX12_fitsNow_8 (fun H locs zr4 w => ?_)
  rw [hQ]
  exact rt_i X hr hlk w hsz zr4 rfl (lf2 hR).1 (lf2 hR).2 dX12_fitsNow_11
/- LooseEndsModel.mayTry(II)Z -/
def fX12_mayTry (N : Nat) (T : SS) (p1 : Int32) (p2 : Int32) : Option (Int32) := if p1 = p2 then
  (some 0)
  else
  (bd (fX12_isSold N T p1) fun r3 =>
  if r3 = 0 then
  (bd (fX12_isSold N T p2) fun r6 =>
  if r6 = 0 then
  (ck (inb (14 + p1) 214) <|
  if (ga T 67 (14 + p1)) = (-1) then
  (ck (inb (21 + p2) 214) <|
  if (ga T 67 (21 + p2)) = (-1) then
  (bd (fX12_firstOf N T p1) fun r13 =>
  bd (fX12_firstOf N T p2) fun r15 =>
  if r13 = r15 then
  (some 0)
  else
  (some 1))
  else
  (some 0))
  else
  (some 0))
  else
  (some 0))
  else
  (some 0))
set_option maxHeartbeats 4000000 in
set_option maxRecDepth 100000 in
theorem kX12_mayTry {l : Launch} {D : va_G} {dA : Nat → ClassId} {ad : Nat → Nat} {t1 t2 : Nat} {N : Nat} {S T : SS} {o : Nat → Int64} {p1 : Int32} {p2 : Int32} {r : Int32} (hR : fX12_mayTry N T p1 p2 = some r) : KI l D dA ad t1 t2 yX12_mayTry cX12_mayTry 3 .boolean { frames := 2, cells := 0, slots := 0, locals := 42 } [.ref (ad 52), .int p1, .int p2] S T o r S T := by
  intro sz
  refine en_ (plainFor_of_name (by decide)) (Nat.le_of_ble_eq_true rfl) ?_
  intro p ev s m args below meth c QQ hQ hsz X hr hlk w ls hl
  have hx := X.1
  have hb := X.2.1
  have hl : lv_has ls 3 [(0, .ref (ad 52)), (1, .int p1), (2, .int p2)] := hl
  unfold fX12_mayTry at hR
  refine lv_iload_n hx hb dX12_mayTry_0 rfl (lv_at hl 1 rfl) ?_
  refine lv_iload_n hx hb dX12_mayTry_1 rfl (lv_at hl 2 rfl) ?_
  refine lv_icmp_eq (tgt := 64) hx hb dX12_mayTry_2 (by decide) (fun c1 => ?_) (fun c1 => ?_)
  · rw [if_pos c1] at hR
    refine lv_iconst (v := 0) hx hb dX12_mayTry_64 (by decide) ?_
    rw [hQ]
    exact rt_i X hr hlk w hsz rfl rfl rfl (lf1 hR) dX12_mayTry_65
  · rw [if_neg c1] at hR
    refine lv_aload_n hx hb dX12_mayTry_5 rfl (lv_at hl 0 rfl) ?_
    refine lv_iload_n hx hb dX12_mayTry_6 rfl (lv_at hl 1 rfl) ?_
    obtain ⟨r3, h2, hR⟩ := bd_e hR
    refine cVi (k := 52) (As := [.int p1]) (rest := []) X hl.1 w okX12_isSold obX12 rfl lmX12_267 (kX12_isSold h2) ⟨Nat.le_of_ble_eq_true rfl, Nat.le_of_ble_eq_true rfl⟩ ⟨rfl, rfl⟩ ⟨Nat.zero_le _, Nat.zero_le _⟩ rfl rfl (Nat.le_of_ble_eq_true rfl) dX12_mayTry_7 (fun H locs zr3 w => ?_)
    refine lv_if_ne (tgt := 64) hx hb dX12_mayTry_10 (by decide) (fun c4 => ?_) (fun c4 => ?_)
    · rw [if_neg c4] at hR
      refine lv_iconst (v := 0) hx hb dX12_mayTry_64 (by decide) ?_
      rw [hQ]
      exact rt_i X hr hlk w hsz rfl rfl rfl (lf1 hR) dX12_mayTry_65
    · rw [if_pos c4] at hR
      refine lv_aload_n hx hb dX12_mayTry_13 rfl (lv_at hl 0 rfl) ?_
      refine lv_iload_n hx hb dX12_mayTry_14 rfl (lv_at hl 2 rfl) ?_
      obtain ⟨r6, h5, hR⟩ := bd_e hR
      refine cVi (k := 52) (As := [.int p2]) (rest := []) X hl.1 w okX12_isSold obX12 rfl lmX12_267 (kX12_isSold h5) ⟨Nat.le_of_ble_eq_true rfl, Nat.le_of_ble_eq_true rfl⟩ ⟨rfl, rfl⟩ ⟨Nat.zero_le _, Nat.zero_le _⟩ rfl rfl (Nat.le_of_ble_eq_true rfl) dX12_mayTry_15 (fun H locs zr6 w => ?_)
      refine lv_if_ne (tgt := 64) hx hb dX12_mayTry_18 (by decide) (fun c7 => ?_) (fun c7 => ?_)
      · rw [if_neg c7] at hR
        refine lv_iconst (v := 0) hx hb dX12_mayTry_64 (by decide) ?_
        rw [hQ]
        exact rt_i X hr hlk w hsz rfl rfl rfl (lf1 hR) dX12_mayTry_65
      · rw [if_pos c7] at hR
        refine lv_aload_n hx hb dX12_mayTry_21 rfl (lv_at hl 0 rfl) ?_
        refine gX12_now X w lfX12_52 dX12_mayTry_22 ?_
        refine lv_bipush (v := 14) hx hb dX12_mayTry_25 (by decide) ?_
        refine lv_iload_n hx hb dX12_mayTry_27 rfl (lv_at hl 1 rfl) ?_
        refine lv_iadd hx hb dX12_mayTry_28 ?_
        obtain ⟨g8, hR⟩ := ck_e hR
        refine ialT (n := 214) rfl (by decide) X w rfl g8 dX12_mayTry_29 ?_
        refine lv_iconst (v := -1) hx hb dX12_mayTry_30 (by decide) ?_
        refine lv_icmp_ne (tgt := 64) hx hb dX12_mayTry_31 (by decide) (fun c9 => ?_) (fun c9 => ?_)
        · rw [if_neg c9] at hR
          refine lv_iconst (v := 0) hx hb dX12_mayTry_64 (by decide) ?_
          rw [hQ]
          exact rt_i X hr hlk w hsz rfl rfl rfl (lf1 hR) dX12_mayTry_65
        · rw [if_pos c9] at hR
          refine lv_aload_n hx hb dX12_mayTry_34 rfl (lv_at hl 0 rfl) ?_
          refine gX12_now X w lfX12_52 dX12_mayTry_35 ?_
          refine lv_bipush (v := 21) hx hb dX12_mayTry_38 (by decide) ?_
          refine lv_iload_n hx hb dX12_mayTry_40 rfl (lv_at hl 2 rfl) ?_
          refine lv_iadd hx hb dX12_mayTry_41 ?_
          obtain ⟨g10, hR⟩ := ck_e hR
          refine ialT (n := 214) rfl (by decide) X w rfl g10 dX12_mayTry_42 ?_
          refine lv_iconst (v := -1) hx hb dX12_mayTry_43 (by decide) ?_
          refine lv_icmp_ne (tgt := 64) hx hb dX12_mayTry_44 (by decide) (fun c11 => ?_) (fun c11 => ?_)
          · rw [if_neg c11] at hR
            refine lv_iconst (v := 0) hx hb dX12_mayTry_64 (by decide) ?_
            rw [hQ]
            exact rt_i X hr hlk w hsz rfl rfl rfl (lf1 hR) dX12_mayTry_65
          · rw [if_pos c11] at hR
            refine lv_aload_n hx hb dX12_mayTry_47 rfl (lv_at hl 0 rfl) ?_
            refine lv_iload_n hx hb dX12_mayTry_48 rfl (lv_at hl 1 rfl) ?_
            obtain ⟨r13, h12, hR⟩ := bd_e hR
            refine cVi (k := 52) (As := [.int p1]) (rest := []) X hl.1 w okX12_firstOf obX12 rfl lmX12_273 (kX12_firstOf h12) ⟨Nat.le_of_ble_eq_true rfl, Nat.le_of_ble_eq_true rfl⟩ ⟨rfl, rfl⟩ ⟨Nat.zero_le _, Nat.zero_le _⟩ rfl rfl (Nat.le_of_ble_eq_true rfl) dX12_mayTry_49 (fun H locs zr13 w => ?_)
            refine lv_aload_n hx hb dX12_mayTry_52 rfl (lv_at hl 0 rfl) ?_
            refine lv_iload_n hx hb dX12_mayTry_53 rfl (lv_at hl 2 rfl) ?_
            obtain ⟨r15, h14, hR⟩ := bd_e hR
            refine cVi (k := 52) (As := [.int p2]) (rest := [.int r13]) X hl.1 w okX12_firstOf obX12 rfl lmX12_273 (kX12_firstOf h14) ⟨Nat.le_of_ble_eq_true rfl, Nat.le_of_ble_eq_true rfl⟩ ⟨rfl, rfl⟩ ⟨Nat.zero_le _, Nat.zero_le _⟩ rfl rfl (Nat.le_of_ble_eq_true rfl) dX12_mayTry_54 (fun H locs zr15 w => ?_)
            refine lv_icmp_eq (tgt := 64) hx hb dX12_mayTry_57 (by decide) (fun c16 => ?_) (fun c16 => ?_)
            · rw [if_pos c16] at hR
              refine lv_iconst (v := 0) hx hb dX12_mayTry_64 (by decide) ?_
              rw [hQ]
              exact rt_i X hr hlk w hsz rfl rfl rfl (lf1 hR) dX12_mayTry_65
            · rw [if_neg c16] at hR
              refine lv_iconst (v := 1) hx hb dX12_mayTry_60 (by decide) ?_
              refine lv_goto (tgt := 65) hx hb dX12_mayTry_61 (by decide) ?_
              rw [hQ]
              exact rt_i X hr hlk w hsz rfl rfl rfl (lf1 hR) dX12_mayTry_65
/- LooseEndsModel.fadeNow(I)V -/
def fX12_fadeNow (N : Nat) (T : SS) (p1 : Int32) : Option (SS) := ck (inb (0 + p1) 214) <|
  ck (inb (0 + p1) 214) <|
  lt (pa T 67 (0 + p1) (mx 0 ((ga T 67 (0 + p1)) - (ga T 65 1)))) fun T3 =>
  some T3
set_option maxHeartbeats 4000000 in
set_option maxRecDepth 100000 in
theorem kX12_fadeNow {l : Launch} {D : va_G} {dA : Nat → ClassId} {ad : Nat → Nat} {t1 t2 : Nat} {N : Nat} {S T : SS} {o : Nat → Int64} {p1 : Int32} {T' : SS} (hR : fX12_fadeNow N T p1 = some T') : KV l D dA ad t1 t2 yX12_fadeNow cX12_fadeNow 2 { frames := 1, cells := 0, slots := 0, locals := 15 } [.ref (ad 52), .int p1] S T o S T' := by
  intro sz
  refine en_ (plainFor_of_name (by decide)) (Nat.le_of_ble_eq_true rfl) ?_
  intro p ev s m args below meth c QQ hQ hsz X hr hlk w ls hl
  have hx := X.1
  have hb := X.2.1
  have hl : lv_has ls 2 [(0, .ref (ad 52)), (1, .int p1)] := hl
  unfold fX12_fadeNow at hR
  refine lv_aload_n hx hb dX12_fadeNow_0 rfl (lv_at hl 0 rfl) ?_
  refine gX12_now X w lfX12_52 dX12_fadeNow_1 ?_
  refine lv_iconst (v := 0) hx hb dX12_fadeNow_4 (by decide) ?_
  refine lv_iload_n hx hb dX12_fadeNow_5 rfl (lv_at hl 1 rfl) ?_
  refine lv_iadd hx hb dX12_fadeNow_6 ?_
  refine lv_iconst (v := 0) hx hb dX12_fadeNow_7 (by decide) ?_
  refine lv_aload_n hx hb dX12_fadeNow_8 rfl (lv_at hl 0 rfl) ?_
  refine gX12_now X w lfX12_52 dX12_fadeNow_9 ?_
  refine lv_iconst (v := 0) hx hb dX12_fadeNow_12 (by decide) ?_
  refine lv_iload_n hx hb dX12_fadeNow_13 rfl (lv_at hl 1 rfl) ?_
  refine lv_iadd hx hb dX12_fadeNow_14 ?_
  obtain ⟨g1, hR⟩ := ck_e hR
  refine ialT (n := 214) rfl (by decide) X w rfl g1 dX12_fadeNow_15 ?_
  refine lv_aload_n hx hb dX12_fadeNow_16 rfl (lv_at hl 0 rfl) ?_
  refine gX12_rule X w lfX12_46 dX12_fadeNow_17 ?_
  refine lv_iconst (v := 1) hx hb dX12_fadeNow_20 (by decide) ?_
  refine ialT (n := 4) rfl (by decide) X w rfl (by decide) dX12_fadeNow_21 ?_
  refine lv_isub hx hb dX12_fadeNow_22 ?_
  refine mxI X hl.1 lmX12_292 ⟨Nat.le_of_ble_eq_true rfl, Nat.le_of_ble_eq_true rfl⟩ ⟨Nat.zero_le _, Nat.zero_le _⟩ dX12_fadeNow_23 ?_
  obtain ⟨g2, hR⟩ := ck_e hR
  obtain ⟨T3, eT3, hR⟩ := lt_e hR
  refine iasT (n := 214) rfl (by decide) X w rfl g2 dX12_fadeNow_26 (fun H locs w => ?_)
  rw [← eT3] at w
  rw [hQ]
  exact rt_v X hr hlk w hsz rfl (lf1 hR) dX12_fadeNow_27
/- LooseEndsModel.tryNow(II)I -/
def fX12_tryNow_j44 (N : Nat) (x1 : Int32) (x2 : Int32) (x3 : Int32) (T : SS) : Option (SS × Int32) := bd (fX12_fadeNow N T x1) fun T2 =>
  bd (fX12_fadeNow N T2 x2) fun T4 =>
  lt (pa T4 67 29 ((ga T4 67 29) + 1)) fun T5 =>
  if x3 = 0 then
  (some (T5, 0))
  else
  (some (T5, 1))
def fX12_tryNow (N : Nat) (T : SS) (p1 : Int32) (p2 : Int32) : Option (SS × Int32) := b2 (fX12_fitsNow N T p1 p2) fun T3 r2 =>
  if r2 = 0 then
  (fX12_tryNow_j44 N p1 p2 r2 T3)
  else
  (ck (inb (14 + p1) 214) <|
  lt (pa T3 67 (14 + p1) p2) fun T6 =>
  ck (inb (21 + p2) 214) <|
  lt (pa T6 67 (21 + p2) p1) fun T8 =>
  lt (pa T8 67 30 ((ga T8 67 30) ||| (sl 1 p1))) fun T9 =>
  fX12_tryNow_j44 N p1 p2 r2 T9)
set_option maxHeartbeats 4000000 in
set_option maxRecDepth 100000 in
theorem kX12_tryNow {l : Launch} {D : va_G} {dA : Nat → ClassId} {ad : Nat → Nat} {t1 t2 : Nat} {N : Nat} {S T : SS} {o : Nat → Int64} {p1 : Int32} {p2 : Int32} {r : Int32} {T' : SS} (hR : fX12_tryNow N T p1 p2 = some (T', r)) : KI l D dA ad t1 t2 yX12_tryNow cX12_tryNow 4 .int { frames := 8, cells := 0, slots := 0, locals := 179 } [.ref (ad 52), .int p1, .int p2] S T o r S T' := by
  intro sz
  refine en_ (plainFor_of_name (by decide)) (Nat.le_of_ble_eq_true rfl) ?_
  intro p ev s m args below meth c QQ hQ hsz X hr hlk w ls hl
  have hx := X.1
  have hb := X.2.1
  have J44 : ∀ (x1 : Int32) (x2 : Int32) (x3 : Int32) (T : SS), fX12_tryNow_j44 N x1 x2 x3 T = some (T', r) → WAT p l ev ({ frames := 8, cells := 0, slots := 0, locals := 179 } : Room) s m args below meth c QQ 4 D dA ad t1 t2 S T o 44 [(0, .ref (ad 52)), (1, .int x1), (2, .int x2), (3, .int x3)] [] := by
    intro x1 x2 x3 T hR H locs ls w hl
    unfold fX12_tryNow_j44 at hR
    refine lv_aload_n hx hb dX12_tryNow_44 rfl (lv_at hl 0 rfl) ?_
    refine lv_iload_n hx hb dX12_tryNow_45 rfl (lv_at hl 1 rfl) ?_
    obtain ⟨T2, h1, hR⟩ := bd_e hR
    refine cVv (k := 52) (As := [.int x1]) (rest := []) X hl.1 w okX12_fadeNow obX12 rfl lmX12_297 (kX12_fadeNow h1) ⟨Nat.le_of_ble_eq_true rfl, Nat.le_of_ble_eq_true rfl⟩ ⟨rfl, rfl⟩ ⟨Nat.zero_le _, Nat.zero_le _⟩ rfl rfl (Nat.le_of_ble_eq_true rfl) dX12_tryNow_46 (fun H locs w => ?_)
    refine lv_aload_n hx hb dX12_tryNow_49 rfl (lv_at hl 0 rfl) ?_
    refine lv_iload_n hx hb dX12_tryNow_50 rfl (lv_at hl 2 rfl) ?_
    obtain ⟨T4, h3, hR⟩ := bd_e hR
    refine cVv (k := 52) (As := [.int x2]) (rest := []) X hl.1 w okX12_fadeNow obX12 rfl lmX12_297 (kX12_fadeNow h3) ⟨Nat.le_of_ble_eq_true rfl, Nat.le_of_ble_eq_true rfl⟩ ⟨rfl, rfl⟩ ⟨Nat.zero_le _, Nat.zero_le _⟩ rfl rfl (Nat.le_of_ble_eq_true rfl) dX12_tryNow_51 (fun H locs w => ?_)
    refine lv_aload_n hx hb dX12_tryNow_54 rfl (lv_at hl 0 rfl) ?_
    refine gX12_now X w lfX12_52 dX12_tryNow_55 ?_
    refine lv_bipush (v := 29) hx hb dX12_tryNow_58 (by decide) ?_
    refine lv_dup2_11 hx hb dX12_tryNow_60 rfl rfl ?_
    refine ialT (n := 214) rfl (by decide) X w rfl (by decide) dX12_tryNow_61 ?_
    refine lv_iconst (v := 1) hx hb dX12_tryNow_62 (by decide) ?_
    refine lv_iadd hx hb dX12_tryNow_63 ?_
    obtain ⟨T5, eT5, hR⟩ := lt_e hR
    refine iasT (n := 214) rfl (by decide) X w rfl (by decide) dX12_tryNow_64 (fun H locs w => ?_)
    rw [← eT5] at w
    refine lv_iload_n hx hb dX12_tryNow_65 rfl (lv_at hl 3 rfl) ?_
    refine lv_if_eq (tgt := 73) hx hb dX12_tryNow_66 (by decide) (fun c6 => ?_) (fun c6 => ?_)
    · rw [if_pos c6] at hR
      refine lv_iconst (v := 0) hx hb dX12_tryNow_73 (by decide) ?_
      rw [hQ]
      exact rt_i X hr hlk w hsz rfl rfl (lf2 hR).1 (lf2 hR).2 dX12_tryNow_74
    · rw [if_neg c6] at hR
      refine lv_iconst (v := 1) hx hb dX12_tryNow_69 (by decide) ?_
      refine lv_goto (tgt := 74) hx hb dX12_tryNow_70 (by decide) ?_
      rw [hQ]
      exact rt_i X hr hlk w hsz rfl rfl (lf2 hR).1 (lf2 hR).2 dX12_tryNow_74
  have hl : lv_has ls 4 [(0, .ref (ad 52)), (1, .int p1), (2, .int p2)] := hl
  unfold fX12_tryNow at hR
  refine lv_aload_n hx hb dX12_tryNow_0 rfl (lv_at hl 0 rfl) ?_
  refine lv_iload_n hx hb dX12_tryNow_1 rfl (lv_at hl 1 rfl) ?_
  refine lv_iload_n hx hb dX12_tryNow_2 rfl (lv_at hl 2 rfl) ?_
  obtain ⟨T3, r2, h1, hR⟩ := b2_e hR
  refine cVi (k := 52) (As := [.int p1, .int p2]) (rest := []) X hl.1 w okX12_fitsNow obX12 rfl lmX12_294 (kX12_fitsNow h1) ⟨Nat.le_of_ble_eq_true rfl, Nat.le_of_ble_eq_true rfl⟩ ⟨rfl, rfl⟩ ⟨Nat.zero_le _, Nat.zero_le _⟩ rfl rfl (Nat.le_of_ble_eq_true rfl) dX12_tryNow_3 (fun H locs zr2 w => ?_)
  refine lv_istore_n (lv' := [(3, .int r2), (0, .ref (ad 52)), (1, .int p1), (2, .int p2)]) hx hb dX12_tryNow_6 rfl hl (by decide) rfl (fun ls hl => ?_)
  refine lv_iload_n hx hb dX12_tryNow_7 rfl (lv_at hl 0 rfl) ?_
  refine lv_if_eq (tgt := 44) hx hb dX12_tryNow_8 (by decide) (fun c4 => ?_) (fun c4 => ?_)
  · rw [if_pos c4] at hR
    exact J44 p1 p2 r2 T3 hR _ _ _ w (lv_sub hl [1, 2, 3, 0] rfl)
  · rw [if_neg c4] at hR
    refine lv_aload_n hx hb dX12_tryNow_11 rfl (lv_at hl 1 rfl) ?_
    refine gX12_now X w lfX12_52 dX12_tryNow_12 ?_
    refine lv_bipush (v := 14) hx hb dX12_tryNow_15 (by decide) ?_
    refine lv_iload_n hx hb dX12_tryNow_17 rfl (lv_at hl 2 rfl) ?_
    refine lv_iadd hx hb dX12_tryNow_18 ?_
    refine lv_iload_n hx hb dX12_tryNow_19 rfl (lv_at hl 3 rfl) ?_
    obtain ⟨g5, hR⟩ := ck_e hR
    obtain ⟨T6, eT6, hR⟩ := lt_e hR
    refine iasT (n := 214) rfl (by decide) X w rfl g5 dX12_tryNow_20 (fun H locs w => ?_)
    rw [← eT6] at w
    refine lv_aload_n hx hb dX12_tryNow_21 rfl (lv_at hl 1 rfl) ?_
    refine gX12_now X w lfX12_52 dX12_tryNow_22 ?_
    refine lv_bipush (v := 21) hx hb dX12_tryNow_25 (by decide) ?_
    refine lv_iload_n hx hb dX12_tryNow_27 rfl (lv_at hl 3 rfl) ?_
    refine lv_iadd hx hb dX12_tryNow_28 ?_
    refine lv_iload_n hx hb dX12_tryNow_29 rfl (lv_at hl 2 rfl) ?_
    obtain ⟨g7, hR⟩ := ck_e hR
    obtain ⟨T8, eT8, hR⟩ := lt_e hR
    refine iasT (n := 214) rfl (by decide) X w rfl g7 dX12_tryNow_30 (fun H locs w => ?_)
    rw [← eT8] at w
    refine lv_aload_n hx hb dX12_tryNow_31 rfl (lv_at hl 1 rfl) ?_
    refine gX12_now X w lfX12_52 dX12_tryNow_32 ?_
    refine lv_bipush (v := 30) hx hb dX12_tryNow_35 (by decide) ?_
    refine lv_dup2_11 hx hb dX12_tryNow_37 rfl rfl ?_
    refine ialT (n := 214) rfl (by decide) X w rfl (by decide) dX12_tryNow_38 ?_
    refine lv_iconst (v := 1) hx hb dX12_tryNow_39 (by decide) ?_
    refine lv_iload_n hx hb dX12_tryNow_40 rfl (lv_at hl 2 rfl) ?_
    refine lv_ishl hx hb dX12_tryNow_41 ?_
    refine lv_ior hx hb dX12_tryNow_42 ?_
    obtain ⟨T9, eT9, hR⟩ := lt_e hR
    refine iasT (n := 214) rfl (by decide) X w rfl (by decide) dX12_tryNow_43 (fun H locs w => ?_)
    rw [← eT9] at w
    exact J44 p1 p2 r2 T9 hR _ _ _ w (lv_sub hl [1, 2, 3, 0] rfl)
/- LooseEndsModel.shorten(I)V -/
def fX12_shorten (N : Nat) (T : SS) (p1 : Int32) : Option (SS) := ck (inb (7 + p1) 214) <|
  ck (inb (7 + p1) 214) <|
  lt (pa T 67 (7 + p1) (mx 1 ((ga T 67 (7 + p1)) - 1))) fun T3 =>
  some T3
set_option maxHeartbeats 4000000 in
set_option maxRecDepth 100000 in
theorem kX12_shorten {l : Launch} {D : va_G} {dA : Nat → ClassId} {ad : Nat → Nat} {t1 t2 : Nat} {N : Nat} {S T : SS} {o : Nat → Int64} {p1 : Int32} {T' : SS} (hR : fX12_shorten N T p1 = some T') : KV l D dA ad t1 t2 yX12_shorten cX12_shorten 2 { frames := 1, cells := 0, slots := 0, locals := 15 } [.ref (ad 52), .int p1] S T o S T' := by
  intro sz
  refine en_ (plainFor_of_name (by decide)) (Nat.le_of_ble_eq_true rfl) ?_
  intro p ev s m args below meth c QQ hQ hsz X hr hlk w ls hl
  have hx := X.1
  have hb := X.2.1
  have hl : lv_has ls 2 [(0, .ref (ad 52)), (1, .int p1)] := hl
  unfold fX12_shorten at hR
  refine lv_aload_n hx hb dX12_shorten_0 rfl (lv_at hl 0 rfl) ?_
  refine gX12_now X w lfX12_52 dX12_shorten_1 ?_
  refine lv_bipush (v := 7) hx hb dX12_shorten_4 (by decide) ?_
  refine lv_iload_n hx hb dX12_shorten_6 rfl (lv_at hl 1 rfl) ?_
  refine lv_iadd hx hb dX12_shorten_7 ?_
  refine lv_iconst (v := 1) hx hb dX12_shorten_8 (by decide) ?_
  refine lv_aload_n hx hb dX12_shorten_9 rfl (lv_at hl 0 rfl) ?_
  refine gX12_now X w lfX12_52 dX12_shorten_10 ?_
  refine lv_bipush (v := 7) hx hb dX12_shorten_13 (by decide) ?_
  refine lv_iload_n hx hb dX12_shorten_15 rfl (lv_at hl 1 rfl) ?_
  refine lv_iadd hx hb dX12_shorten_16 ?_
  obtain ⟨g1, hR⟩ := ck_e hR
  refine ialT (n := 214) rfl (by decide) X w rfl g1 dX12_shorten_17 ?_
  refine lv_iconst (v := 1) hx hb dX12_shorten_18 (by decide) ?_
  refine lv_isub hx hb dX12_shorten_19 ?_
  refine mxI X hl.1 lmX12_292 ⟨Nat.le_of_ble_eq_true rfl, Nat.le_of_ble_eq_true rfl⟩ ⟨Nat.zero_le _, Nat.zero_le _⟩ dX12_shorten_20 ?_
  obtain ⟨g2, hR⟩ := ck_e hR
  obtain ⟨T3, eT3, hR⟩ := lt_e hR
  refine iasT (n := 214) rfl (by decide) X w rfl g2 dX12_shorten_23 (fun H locs w => ?_)
  rw [← eT3] at w
  rw [hQ]
  exact rt_v X hr hlk w hsz rfl (lf1 hR) dX12_shorten_24
/- LooseEndsModel.pullNow(I)I -/
def fX12_pullNow_j72 (N : Nat) (x1 : Int32) (x2 : Int32) (T : SS) : Option (SS × Int32) := ck (inb (14 + x1) 214) <|
  lt (pa T 67 (14 + x1) (-1)) fun T2 =>
  ck (inb (21 + x1) 214) <|
  lt (pa T2 67 (21 + x1) (-1)) fun T4 =>
  some (T4, x2)
def fX12_pullNow_j46 (N : Nat) (x1 : Int32) (x2 : Int32) (x4 : Int32) (T : SS) : Option (SS × Int32) := if x4 = (-1) then
  (fX12_pullNow_j72 N x1 x2 T)
  else
  (ck (inb (14 + x4) 214) <|
  lt (pa T 67 (14 + x4) (-1)) fun T3 =>
  bd (fX12_shorten N T3 x4) fun T5 =>
  lt (x2 + 1) fun v6 =>
  fX12_pullNow_j72 N x1 v6 T5)
def fX12_pullNow (N : Nat) (T : SS) (p1 : Int32) : Option (SS × Int32) := ck (inb (14 + p1) 214) <|
  lt (ga T 67 (14 + p1)) fun v2 =>
  ck (inb (21 + p1) 214) <|
  lt (ga T 67 (21 + p1)) fun v4 =>
  if v2 = (-1) then
  (fX12_pullNow_j46 N p1 0 v4 T)
  else
  (ck (inb (21 + v2) 214) <|
  lt (pa T 67 (21 + v2) (-1)) fun T7 =>
  bd (fX12_shorten N T7 v2) fun T9 =>
  lt (0 + 1) fun v10 =>
  fX12_pullNow_j46 N p1 v10 v4 T9)
set_option maxHeartbeats 4000000 in
set_option maxRecDepth 100000 in
theorem kX12_pullNow {l : Launch} {D : va_G} {dA : Nat → ClassId} {ad : Nat → Nat} {t1 t2 : Nat} {N : Nat} {S T : SS} {o : Nat → Int64} {p1 : Int32} {r : Int32} {T' : SS} (hR : fX12_pullNow N T p1 = some (T', r)) : KI l D dA ad t1 t2 yX12_pullNow cX12_pullNow 5 .int { frames := 2, cells := 0, slots := 0, locals := 36 } [.ref (ad 52), .int p1] S T o r S T' := by
  intro sz
  refine en_ (plainFor_of_name (by decide)) (Nat.le_of_ble_eq_true rfl) ?_
  intro p ev s m args below meth c QQ hQ hsz X hr hlk w ls hl
  have hx := X.1
  have hb := X.2.1
  have J72 : ∀ (x1 : Int32) (x2 : Int32) (T : SS), fX12_pullNow_j72 N x1 x2 T = some (T', r) → WAT p l ev ({ frames := 2, cells := 0, slots := 0, locals := 36 } : Room) s m args below meth c QQ 5 D dA ad t1 t2 S T o 72 [(0, .ref (ad 52)), (1, .int x1), (2, .int x2)] [] := by
    intro x1 x2 T hR H locs ls w hl
    unfold fX12_pullNow_j72 at hR
    refine lv_aload_n hx hb dX12_pullNow_72 rfl (lv_at hl 0 rfl) ?_
    refine gX12_now X w lfX12_52 dX12_pullNow_73 ?_
    refine lv_bipush (v := 14) hx hb dX12_pullNow_76 (by decide) ?_
    refine lv_iload_n hx hb dX12_pullNow_78 rfl (lv_at hl 1 rfl) ?_
    refine lv_iadd hx hb dX12_pullNow_79 ?_
    refine lv_iconst (v := -1) hx hb dX12_pullNow_80 (by decide) ?_
    obtain ⟨g1, hR⟩ := ck_e hR
    obtain ⟨T2, eT2, hR⟩ := lt_e hR
    refine iasT (n := 214) rfl (by decide) X w rfl g1 dX12_pullNow_81 (fun H locs w => ?_)
    rw [← eT2] at w
    refine lv_aload_n hx hb dX12_pullNow_82 rfl (lv_at hl 0 rfl) ?_
    refine gX12_now X w lfX12_52 dX12_pullNow_83 ?_
    refine lv_bipush (v := 21) hx hb dX12_pullNow_86 (by decide) ?_
    refine lv_iload_n hx hb dX12_pullNow_88 rfl (lv_at hl 1 rfl) ?_
    refine lv_iadd hx hb dX12_pullNow_89 ?_
    refine lv_iconst (v := -1) hx hb dX12_pullNow_90 (by decide) ?_
    obtain ⟨g3, hR⟩ := ck_e hR
    obtain ⟨T4, eT4, hR⟩ := lt_e hR
    refine iasT (n := 214) rfl (by decide) X w rfl g3 dX12_pullNow_91 (fun H locs w => ?_)
    rw [← eT4] at w
    refine lv_iload_n hx hb dX12_pullNow_92 rfl (lv_at hl 2 rfl) ?_
    rw [hQ]
    exact rt_i X hr hlk w hsz rfl rfl (lf2 hR).1 (lf2 hR).2 dX12_pullNow_93
  have J46 : ∀ (x1 : Int32) (x2 : Int32) (x4 : Int32) (T : SS), fX12_pullNow_j46 N x1 x2 x4 T = some (T', r) → WAT p l ev ({ frames := 2, cells := 0, slots := 0, locals := 36 } : Room) s m args below meth c QQ 5 D dA ad t1 t2 S T o 46 [(0, .ref (ad 52)), (1, .int x1), (2, .int x2), (4, .int x4)] [] := by
    intro x1 x2 x4 T hR H locs ls w hl
    unfold fX12_pullNow_j46 at hR
    refine lv_iload hx hb dX12_pullNow_46 (lv_at hl 3 rfl) ?_
    refine lv_iconst (v := -1) hx hb dX12_pullNow_48 (by decide) ?_
    refine lv_icmp_eq (tgt := 72) hx hb dX12_pullNow_49 (by decide) (fun c1 => ?_) (fun c1 => ?_)
    · rw [if_pos c1] at hR
      exact J72 x1 x2 T hR _ _ _ w (lv_sub hl [0, 1, 2] rfl)
    · rw [if_neg c1] at hR
      refine lv_aload_n hx hb dX12_pullNow_52 rfl (lv_at hl 0 rfl) ?_
      refine gX12_now X w lfX12_52 dX12_pullNow_53 ?_
      refine lv_bipush (v := 14) hx hb dX12_pullNow_56 (by decide) ?_
      refine lv_iload hx hb dX12_pullNow_58 (lv_at hl 3 rfl) ?_
      refine lv_iadd hx hb dX12_pullNow_60 ?_
      refine lv_iconst (v := -1) hx hb dX12_pullNow_61 (by decide) ?_
      obtain ⟨g2, hR⟩ := ck_e hR
      obtain ⟨T3, eT3, hR⟩ := lt_e hR
      refine iasT (n := 214) rfl (by decide) X w rfl g2 dX12_pullNow_62 (fun H locs w => ?_)
      rw [← eT3] at w
      refine lv_aload_n hx hb dX12_pullNow_63 rfl (lv_at hl 0 rfl) ?_
      refine lv_iload hx hb dX12_pullNow_64 (lv_at hl 3 rfl) ?_
      obtain ⟨T5, h4, hR⟩ := bd_e hR
      refine cVv (k := 52) (As := [.int x4]) (rest := []) X hl.1 w okX12_shorten obX12 rfl lmX12_300 (kX12_shorten h4) ⟨Nat.le_of_ble_eq_true rfl, Nat.le_of_ble_eq_true rfl⟩ ⟨rfl, rfl⟩ ⟨Nat.zero_le _, Nat.zero_le _⟩ rfl rfl (Nat.le_of_ble_eq_true rfl) dX12_pullNow_66 (fun H locs w => ?_)
      obtain ⟨v6, ev6, hR⟩ := lt_e hR
      refine lv_iinc (v := v6) (lv' := [(2, .int v6), (0, .ref (ad 52)), (1, .int x1), (4, .int x4)]) hx hb dX12_pullNow_69 hl (k := 2) rfl (by rw [ev6]; rfl) (by decide) rfl (fun ls hl => ?_)
      exact J72 x1 v6 T5 hR _ _ _ w (lv_sub hl [1, 2, 0] rfl)
  have hl : lv_has ls 5 [(0, .ref (ad 52)), (1, .int p1)] := hl
  unfold fX12_pullNow at hR
  refine lv_iconst (v := 0) hx hb dX12_pullNow_0 (by decide) ?_
  refine lv_istore_n (lv' := [(2, .int 0), (0, .ref (ad 52)), (1, .int p1)]) hx hb dX12_pullNow_1 rfl hl (by decide) rfl (fun ls hl => ?_)
  refine lv_aload_n hx hb dX12_pullNow_2 rfl (lv_at hl 1 rfl) ?_
  refine gX12_now X w lfX12_52 dX12_pullNow_3 ?_
  refine lv_bipush (v := 14) hx hb dX12_pullNow_6 (by decide) ?_
  refine lv_iload_n hx hb dX12_pullNow_8 rfl (lv_at hl 2 rfl) ?_
  refine lv_iadd hx hb dX12_pullNow_9 ?_
  obtain ⟨g1, hR⟩ := ck_e hR
  refine ialT (n := 214) rfl (by decide) X w rfl g1 dX12_pullNow_10 ?_
  obtain ⟨v2, ev2, hR⟩ := lt_e hR
  refine nm_i ev2 ?_
  refine lv_istore_n (lv' := [(3, .int v2), (2, .int 0), (0, .ref (ad 52)), (1, .int p1)]) hx hb dX12_pullNow_11 rfl hl (by decide) rfl (fun ls hl => ?_)
  refine lv_aload_n hx hb dX12_pullNow_12 rfl (lv_at hl 2 rfl) ?_
  refine gX12_now X w lfX12_52 dX12_pullNow_13 ?_
  refine lv_bipush (v := 21) hx hb dX12_pullNow_16 (by decide) ?_
  refine lv_iload_n hx hb dX12_pullNow_18 rfl (lv_at hl 3 rfl) ?_
  refine lv_iadd hx hb dX12_pullNow_19 ?_
  obtain ⟨g3, hR⟩ := ck_e hR
  refine ialT (n := 214) rfl (by decide) X w rfl g3 dX12_pullNow_20 ?_
  obtain ⟨v4, ev4, hR⟩ := lt_e hR
  refine nm_i ev4 ?_
  refine lv_istore (lv' := [(4, .int v4), (3, .int v2), (2, .int 0), (0, .ref (ad 52)), (1, .int p1)]) hx hb dX12_pullNow_21 hl (by decide) rfl (fun ls hl => ?_)
  refine lv_iload_n hx hb dX12_pullNow_23 rfl (lv_at hl 1 rfl) ?_
  refine lv_iconst (v := -1) hx hb dX12_pullNow_24 (by decide) ?_
  refine lv_icmp_eq (tgt := 46) hx hb dX12_pullNow_25 (by decide) (fun c5 => ?_) (fun c5 => ?_)
  · rw [if_pos c5] at hR
    exact J46 p1 0 v4 T hR _ _ _ w (lv_sub hl [3, 4, 2, 0] rfl)
  · rw [if_neg c5] at hR
    refine lv_aload_n hx hb dX12_pullNow_28 rfl (lv_at hl 3 rfl) ?_
    refine gX12_now X w lfX12_52 dX12_pullNow_29 ?_
    refine lv_bipush (v := 21) hx hb dX12_pullNow_32 (by decide) ?_
    refine lv_iload_n hx hb dX12_pullNow_34 rfl (lv_at hl 1 rfl) ?_
    refine lv_iadd hx hb dX12_pullNow_35 ?_
    refine lv_iconst (v := -1) hx hb dX12_pullNow_36 (by decide) ?_
    obtain ⟨g6, hR⟩ := ck_e hR
    obtain ⟨T7, eT7, hR⟩ := lt_e hR
    refine iasT (n := 214) rfl (by decide) X w rfl g6 dX12_pullNow_37 (fun H locs w => ?_)
    rw [← eT7] at w
    refine lv_aload_n hx hb dX12_pullNow_38 rfl (lv_at hl 3 rfl) ?_
    refine lv_iload_n hx hb dX12_pullNow_39 rfl (lv_at hl 1 rfl) ?_
    obtain ⟨T9, h8, hR⟩ := bd_e hR
    refine cVv (k := 52) (As := [.int v2]) (rest := []) X hl.1 w okX12_shorten obX12 rfl lmX12_300 (kX12_shorten h8) ⟨Nat.le_of_ble_eq_true rfl, Nat.le_of_ble_eq_true rfl⟩ ⟨rfl, rfl⟩ ⟨Nat.zero_le _, Nat.zero_le _⟩ rfl rfl (Nat.le_of_ble_eq_true rfl) dX12_pullNow_40 (fun H locs w => ?_)
    obtain ⟨v10, ev10, hR⟩ := lt_e hR
    refine lv_iinc (v := v10) (lv' := [(2, .int v10), (4, .int v4), (3, .int v2), (0, .ref (ad 52)), (1, .int p1)]) hx hb dX12_pullNow_43 hl (k := 2) rfl (by rw [ev10]; rfl) (by decide) rfl (fun ls hl => ?_)
    exact J46 p1 v10 v4 T9 hR _ _ _ w (lv_sub hl [3, 4, 0, 1] rfl)
/- LooseEndsModel.worthOfTale(I)I -/
def fX12_worthOfTale (N : Nat) (T : SS) (p1 : Int32) : Option (Int32) := bd (fX12_lengthOf N T p1) fun r2 =>
  bd (fX12_manyOf N T p1) fun r4 =>
  some ((r2 * r4) / 4)
set_option maxHeartbeats 4000000 in
set_option maxRecDepth 100000 in
theorem kX12_worthOfTale {l : Launch} {D : va_G} {dA : Nat → ClassId} {ad : Nat → Nat} {t1 t2 : Nat} {N : Nat} {S T : SS} {o : Nat → Int64} {p1 : Int32} {r : Int32} (hR : fX12_worthOfTale N T p1 = some r) : KI l D dA ad t1 t2 yX12_worthOfTale cX12_worthOfTale 2 .int { frames := 2, cells := 0, slots := 0, locals := 45 } [.ref (ad 52), .int p1] S T o r S T := by
  intro sz
  refine en_ (plainFor_of_name (by decide)) (Nat.le_of_ble_eq_true rfl) ?_
  intro p ev s m args below meth c QQ hQ hsz X hr hlk w ls hl
  have hx := X.1
  have hb := X.2.1
  have hl : lv_has ls 2 [(0, .ref (ad 52)), (1, .int p1)] := hl
  unfold fX12_worthOfTale at hR
  refine lv_aload_n hx hb dX12_worthOfTale_0 rfl (lv_at hl 0 rfl) ?_
  refine lv_iload_n hx hb dX12_worthOfTale_1 rfl (lv_at hl 1 rfl) ?_
  obtain ⟨r2, h1, hR⟩ := bd_e hR
  refine cVi (k := 52) (As := [.int p1]) (rest := []) X hl.1 w okX12_lengthOf obX12 rfl lmX12_303 (kX12_lengthOf h1) ⟨Nat.le_of_ble_eq_true rfl, Nat.le_of_ble_eq_true rfl⟩ ⟨rfl, rfl⟩ ⟨Nat.zero_le _, Nat.zero_le _⟩ rfl rfl (Nat.le_of_ble_eq_true rfl) dX12_worthOfTale_2 (fun H locs zr2 w => ?_)
  refine lv_aload_n hx hb dX12_worthOfTale_5 rfl (lv_at hl 0 rfl) ?_
  refine lv_iload_n hx hb dX12_worthOfTale_6 rfl (lv_at hl 1 rfl) ?_
  obtain ⟨r4, h3, hR⟩ := bd_e hR
  refine cVi (k := 52) (As := [.int p1]) (rest := [.int r2]) X hl.1 w okX12_manyOf obX12 rfl lmX12_286 (kX12_manyOf h3) ⟨Nat.le_of_ble_eq_true rfl, Nat.le_of_ble_eq_true rfl⟩ ⟨rfl, rfl⟩ ⟨Nat.zero_le _, Nat.zero_le _⟩ rfl rfl (Nat.le_of_ble_eq_true rfl) dX12_worthOfTale_7 (fun H locs zr4 w => ?_)
  refine lv_imul hx hb dX12_worthOfTale_10 ?_
  refine lv_iconst (v := 4) hx hb dX12_worthOfTale_11 (by decide) ?_
  refine lv_idiv hx hb dX12_worthOfTale_12 (by decide) ?_
  rw [hQ]
  exact rt_i X hr hlk w hsz rfl rfl rfl (lf1 hR) dX12_worthOfTale_13
/- LooseEndsModel.rule(I)I -/
def fX12_rule (N : Nat) (T : SS) (p1 : Int32) : Option (Int32) := if (gi T 52 22) = 0 then
  (some (-1))
  else
  (bd (fX12_in N p1 0 3) fun r3 =>
  if r3 = 0 then
  (some (-1))
  else
  (if p1 = 3 then
  (some (ga T 67 31))
  else
  (ck (inb p1 4) <|
  some (ga T 65 p1))))
set_option maxHeartbeats 4000000 in
set_option maxRecDepth 100000 in
theorem kX12_rule {l : Launch} {D : va_G} {dA : Nat → ClassId} {ad : Nat → Nat} {t1 t2 : Nat} {N : Nat} {S T : SS} {o : Nat → Int64} {p1 : Int32} {r : Int32} (hR : fX12_rule N T p1 = some r) : KI l D dA ad t1 t2 yX12_rule cX12_rule 2 .int { frames := 1, cells := 0, slots := 0, locals := 22 } [.ref (ad 52), .int p1] S T o r S T := by
  intro sz
  refine en_ (plainFor_of_name (by decide)) (Nat.le_of_ble_eq_true rfl) ?_
  intro p ev s m args below meth c QQ hQ hsz X hr hlk w ls hl
  have hx := X.1
  have hb := X.2.1
  have hl : lv_has ls 2 [(0, .ref (ad 52)), (1, .int p1)] := hl
  unfold fX12_rule at hR
  refine lv_aload_n hx hb dX12_rule_0 rfl (lv_at hl 0 rfl) ?_
  refine gX12_ends X w lfX12_245 dX12_rule_1 ?_
  refine lv_if_eq (tgt := 16) hx hb dX12_rule_4 (by decide) (fun c1 => ?_) (fun c1 => ?_)
  · rw [if_pos c1] at hR
    refine lv_iconst (v := -1) hx hb dX12_rule_16 (by decide) ?_
    refine lv_goto (tgt := 41) hx hb dX12_rule_17 (by decide) ?_
    rw [hQ]
    exact rt_i X hr hlk w hsz rfl rfl rfl (lf1 hR) dX12_rule_41
  · rw [if_neg c1] at hR
    refine lv_iload_n hx hb dX12_rule_7 rfl (lv_at hl 1 rfl) ?_
    refine lv_iconst (v := 0) hx hb dX12_rule_8 (by decide) ?_
    refine lv_iconst (v := 3) hx hb dX12_rule_9 (by decide) ?_
    obtain ⟨r3, h2, hR⟩ := bd_e hR
    refine cSi (As := [.int p1, .int 0, .int 3]) (rest := []) X hl.1 w okX12_in lmX12_208 (kX12_in h2) ⟨Nat.le_of_ble_eq_true rfl, Nat.le_of_ble_eq_true rfl⟩ ⟨rfl, rfl⟩ ⟨Nat.zero_le _, Nat.zero_le _⟩ rfl rfl (Nat.le_of_ble_eq_true rfl) dX12_rule_10 (fun H locs zr3 w => ?_)
    refine lv_if_ne (tgt := 20) hx hb dX12_rule_13 (by decide) (fun c4 => ?_) (fun c4 => ?_)
    · rw [if_neg c4] at hR
      refine lv_iload_n hx hb dX12_rule_20 rfl (lv_at hl 1 rfl) ?_
      refine lv_iconst (v := 3) hx hb dX12_rule_21 (by decide) ?_
      refine lv_icmp_ne (tgt := 35) hx hb dX12_rule_22 (by decide) (fun c5 => ?_) (fun c5 => ?_)
      · rw [if_neg c5] at hR
        refine lv_aload_n hx hb dX12_rule_35 rfl (lv_at hl 0 rfl) ?_
        refine gX12_rule X w lfX12_46 dX12_rule_36 ?_
        refine lv_iload_n hx hb dX12_rule_39 rfl (lv_at hl 1 rfl) ?_
        obtain ⟨g6, hR⟩ := ck_e hR
        refine ialT (n := 4) rfl (by decide) X w rfl g6 dX12_rule_40 ?_
        rw [hQ]
        exact rt_i X hr hlk w hsz rfl rfl rfl (lf1 hR) dX12_rule_41
      · rw [if_pos c5] at hR
        refine lv_aload_n hx hb dX12_rule_25 rfl (lv_at hl 0 rfl) ?_
        refine gX12_now X w lfX12_52 dX12_rule_26 ?_
        refine lv_bipush (v := 31) hx hb dX12_rule_29 (by decide) ?_
        refine ialT (n := 214) rfl (by decide) X w rfl (by decide) dX12_rule_31 ?_
        refine lv_goto (tgt := 41) hx hb dX12_rule_32 (by decide) ?_
        rw [hQ]
        exact rt_i X hr hlk w hsz rfl rfl rfl (lf1 hR) dX12_rule_41
    · rw [if_pos c4] at hR
      refine lv_iconst (v := -1) hx hb dX12_rule_16 (by decide) ?_
      refine lv_goto (tgt := 41) hx hb dX12_rule_17 (by decide) ?_
      rw [hQ]
      exact rt_i X hr hlk w hsz rfl rfl rfl (lf1 hR) dX12_rule_41
/- LooseEndsModel.thread(II)I -/
def fX12_thread_j23 (N : Nat) (x1 : Int32) (x2 : Int32) (y0 : Int32) (T : SS) : Option (SS × Int32) := lt (pj T 52 0 y0) fun T1 =>
  if (gi T1 52 0) = 1 then
  (some (T1, 0))
  else
  (if x2 = 0 then
  (ck (inb (0 + x1) 214) <|
  some (T1, ga T1 67 (0 + x1)))
  else
  (if x2 = 1 then
  (bd (fX12_of N T1 x1 1) fun r6 =>
  some (T1, r6))
  else
  (if x2 = 2 then
  (ck (inb (7 + x1) 214) <|
  some (T1, ga T1 67 (7 + x1)))
  else
  (if x2 = 3 then
  (bd (fX12_isSold N T1 x1) fun r9 =>
  if r9 = 0 then
  (some (T1, 0))
  else
  (some (T1, 1)))
  else
  (if x2 = 4 then
  (ck (inb (14 + x1) 214) <|
  some (T1, ga T1 67 (14 + x1)))
  else
  (ck (inb (21 + x1) 214) <|
  some (T1, ga T1 67 (21 + x1))))))))
def fX12_thread_j22 (N : Nat) (x1 : Int32) (x2 : Int32) (T : SS) : Option (SS × Int32) := fX12_thread_j23 N x1 x2 1 T
def fX12_thread (N : Nat) (T : SS) (p1 : Int32) (p2 : Int32) : Option (SS × Int32) := bd (fX12_isEnd N T p1) fun r2 =>
  if r2 = 0 then
  (fX12_thread_j22 N p1 p2 T)
  else
  (bd (fX12_in N p2 0 5) fun r5 =>
  if r5 = 0 then
  (fX12_thread_j22 N p1 p2 T)
  else
  (fX12_thread_j23 N p1 p2 0 T))
set_option maxHeartbeats 4000000 in
set_option maxRecDepth 100000 in
theorem kX12_thread {l : Launch} {D : va_G} {dA : Nat → ClassId} {ad : Nat → Nat} {t1 t2 : Nat} {N : Nat} {S T : SS} {o : Nat → Int64} {p1 : Int32} {p2 : Int32} {r : Int32} {T' : SS} (hR : fX12_thread N T p1 p2 = some (T', r)) : KI l D dA ad t1 t2 yX12_thread cX12_thread 3 .int { frames := 2, cells := 0, slots := 0, locals := 43 } [.ref (ad 52), .int p1, .int p2] S T o r S T' := by
  intro sz
  refine en_ (plainFor_of_name (by decide)) (Nat.le_of_ble_eq_true rfl) ?_
  intro p ev s m args below meth c QQ hQ hsz X hr hlk w ls hl
  have hx := X.1
  have hb := X.2.1
  have J23 : ∀ (x1 : Int32) (x2 : Int32) (y0 : Int32) (T : SS), fX12_thread_j23 N x1 x2 y0 T = some (T', r) → WAT p l ev ({ frames := 2, cells := 0, slots := 0, locals := 43 } : Room) s m args below meth c QQ 3 D dA ad t1 t2 S T o 23 [(0, .ref (ad 52)), (1, .int x1), (2, .int x2)] [.int y0, .ref (ad 52)] := by
    intro x1 x2 y0 T hR H locs ls w hl
    unfold fX12_thread_j23 at hR
    obtain ⟨T1, eT1, hR⟩ := lt_e hR
    refine pX12_thrown X w lfX12_93 dX12_thread_23 (fun H locs w => ?_)
    rw [← eT1] at w
    refine lv_aload_n hx hb dX12_thread_26 rfl (lv_at hl 0 rfl) ?_
    refine gX12_thrown X w lfX12_93 dX12_thread_27 ?_
    refine lv_iconst (v := 1) hx hb dX12_thread_30 (by decide) ?_
    refine lv_icmp_ne (tgt := 36) hx hb dX12_thread_31 (by decide) (fun c2 => ?_) (fun c2 => ?_)
    · rw [if_neg c2] at hR
      refine lv_iload_n hx hb dX12_thread_36 rfl (lv_at hl 2 rfl) ?_
      by_cases c3_0 : x2 = 0
      · rw [if_pos c3_0] at hR
        refine lv_tableIn (tgt := 72) hx hb dX12_thread_37 (by rw [c3_0]; decide) (by rw [c3_0]; decide) (by rw [c3_0]; rfl) (by decide) ?_
        refine lv_aload_n hx hb dX12_thread_72 rfl (lv_at hl 0 rfl) ?_
        refine gX12_now X w lfX12_52 dX12_thread_73 ?_
        refine lv_iconst (v := 0) hx hb dX12_thread_76 (by decide) ?_
        refine lv_iload_n hx hb dX12_thread_77 rfl (lv_at hl 1 rfl) ?_
        refine lv_iadd hx hb dX12_thread_78 ?_
        obtain ⟨g4, hR⟩ := ck_e hR
        refine ialT (n := 214) rfl (by decide) X w rfl g4 dX12_thread_79 ?_
        rw [hQ]
        exact rt_i X hr hlk w hsz rfl rfl (lf2 hR).1 (lf2 hR).2 dX12_thread_80
      · rw [if_neg c3_0] at hR
        by_cases c3_1 : x2 = 1
        · rw [if_pos c3_1] at hR
          refine lv_tableIn (tgt := 81) hx hb dX12_thread_37 (by rw [c3_1]; decide) (by rw [c3_1]; decide) (by rw [c3_1]; rfl) (by decide) ?_
          refine lv_aload_n hx hb dX12_thread_81 rfl (lv_at hl 0 rfl) ?_
          refine lv_iload_n hx hb dX12_thread_82 rfl (lv_at hl 1 rfl) ?_
          refine lv_iconst (v := 1) hx hb dX12_thread_83 (by decide) ?_
          obtain ⟨r6, h5, hR⟩ := bd_e hR
          refine cVi (k := 52) (As := [.int x1, .int 1]) (rest := []) X hl.1 w okX12_of obX12 rfl lmX12_248 (kX12_of h5) ⟨Nat.le_of_ble_eq_true rfl, Nat.le_of_ble_eq_true rfl⟩ ⟨rfl, rfl⟩ ⟨Nat.zero_le _, Nat.zero_le _⟩ rfl rfl (Nat.le_of_ble_eq_true rfl) dX12_thread_84 (fun H locs zr6 w => ?_)
          rw [hQ]
          exact rt_i X hr hlk w hsz rfl rfl (lf2 hR).1 (lf2 hR).2 dX12_thread_87
        · rw [if_neg c3_1] at hR
          by_cases c3_2 : x2 = 2
          · rw [if_pos c3_2] at hR
            refine lv_tableIn (tgt := 88) hx hb dX12_thread_37 (by rw [c3_2]; decide) (by rw [c3_2]; decide) (by rw [c3_2]; rfl) (by decide) ?_
            refine lv_aload_n hx hb dX12_thread_88 rfl (lv_at hl 0 rfl) ?_
            refine gX12_now X w lfX12_52 dX12_thread_89 ?_
            refine lv_bipush (v := 7) hx hb dX12_thread_92 (by decide) ?_
            refine lv_iload_n hx hb dX12_thread_94 rfl (lv_at hl 1 rfl) ?_
            refine lv_iadd hx hb dX12_thread_95 ?_
            obtain ⟨g7, hR⟩ := ck_e hR
            refine ialT (n := 214) rfl (by decide) X w rfl g7 dX12_thread_96 ?_
            rw [hQ]
            exact rt_i X hr hlk w hsz rfl rfl (lf2 hR).1 (lf2 hR).2 dX12_thread_97
          · rw [if_neg c3_2] at hR
            by_cases c3_3 : x2 = 3
            · rw [if_pos c3_3] at hR
              refine lv_tableIn (tgt := 98) hx hb dX12_thread_37 (by rw [c3_3]; decide) (by rw [c3_3]; decide) (by rw [c3_3]; rfl) (by decide) ?_
              refine lv_aload_n hx hb dX12_thread_98 rfl (lv_at hl 0 rfl) ?_
              refine lv_iload_n hx hb dX12_thread_99 rfl (lv_at hl 1 rfl) ?_
              obtain ⟨r9, h8, hR⟩ := bd_e hR
              refine cVi (k := 52) (As := [.int x1]) (rest := []) X hl.1 w okX12_isSold obX12 rfl lmX12_267 (kX12_isSold h8) ⟨Nat.le_of_ble_eq_true rfl, Nat.le_of_ble_eq_true rfl⟩ ⟨rfl, rfl⟩ ⟨Nat.zero_le _, Nat.zero_le _⟩ rfl rfl (Nat.le_of_ble_eq_true rfl) dX12_thread_100 (fun H locs zr9 w => ?_)
              refine lv_if_eq (tgt := 110) hx hb dX12_thread_103 (by decide) (fun c10 => ?_) (fun c10 => ?_)
              · rw [if_pos c10] at hR
                refine lv_iconst (v := 0) hx hb dX12_thread_110 (by decide) ?_
                rw [hQ]
                exact rt_i X hr hlk w hsz rfl rfl (lf2 hR).1 (lf2 hR).2 dX12_thread_111
              · rw [if_neg c10] at hR
                refine lv_iconst (v := 1) hx hb dX12_thread_106 (by decide) ?_
                refine lv_goto (tgt := 111) hx hb dX12_thread_107 (by decide) ?_
                rw [hQ]
                exact rt_i X hr hlk w hsz rfl rfl (lf2 hR).1 (lf2 hR).2 dX12_thread_111
            · rw [if_neg c3_3] at hR
              by_cases c3_4 : x2 = 4
              · rw [if_pos c3_4] at hR
                refine lv_tableIn (tgt := 112) hx hb dX12_thread_37 (by rw [c3_4]; decide) (by rw [c3_4]; decide) (by rw [c3_4]; rfl) (by decide) ?_
                refine lv_aload_n hx hb dX12_thread_112 rfl (lv_at hl 0 rfl) ?_
                refine gX12_now X w lfX12_52 dX12_thread_113 ?_
                refine lv_bipush (v := 14) hx hb dX12_thread_116 (by decide) ?_
                refine lv_iload_n hx hb dX12_thread_118 rfl (lv_at hl 1 rfl) ?_
                refine lv_iadd hx hb dX12_thread_119 ?_
                obtain ⟨g11, hR⟩ := ck_e hR
                refine ialT (n := 214) rfl (by decide) X w rfl g11 dX12_thread_120 ?_
                rw [hQ]
                exact rt_i X hr hlk w hsz rfl rfl (lf2 hR).1 (lf2 hR).2 dX12_thread_121
              · rw [if_neg c3_4] at hR
                have hh0 := ne_int (n := 0) (by decide) c3_0
                have hh1 := ne_int (n := 1) (by decide) c3_1
                have hh2 := ne_int (n := 2) (by decide) c3_2
                have hh3 := ne_int (n := 3) (by decide) c3_3
                have hh4 := ne_int (n := 4) (by decide) c3_4
                refine lv_tableOut (tgt := 122) hx hb dX12_thread_37 (by omega) (by decide) ?_
                refine lv_aload_n hx hb dX12_thread_122 rfl (lv_at hl 0 rfl) ?_
                refine gX12_now X w lfX12_52 dX12_thread_123 ?_
                refine lv_bipush (v := 21) hx hb dX12_thread_126 (by decide) ?_
                refine lv_iload_n hx hb dX12_thread_128 rfl (lv_at hl 1 rfl) ?_
                refine lv_iadd hx hb dX12_thread_129 ?_
                obtain ⟨g12, hR⟩ := ck_e hR
                refine ialT (n := 214) rfl (by decide) X w rfl g12 dX12_thread_130 ?_
                rw [hQ]
                exact rt_i X hr hlk w hsz rfl rfl (lf2 hR).1 (lf2 hR).2 dX12_thread_131
    · rw [if_pos c2] at hR
      refine lv_iconst (v := 0) hx hb dX12_thread_34 (by decide) ?_
      rw [hQ]
      exact rt_i X hr hlk w hsz rfl rfl (lf2 hR).1 (lf2 hR).2 dX12_thread_35
  have J22 : ∀ (x1 : Int32) (x2 : Int32) (T : SS), fX12_thread_j22 N x1 x2 T = some (T', r) → WAT p l ev ({ frames := 2, cells := 0, slots := 0, locals := 43 } : Room) s m args below meth c QQ 3 D dA ad t1 t2 S T o 22 [(0, .ref (ad 52)), (1, .int x1), (2, .int x2)] [.ref (ad 52)] := by
    intro x1 x2 T hR H locs ls w hl
    unfold fX12_thread_j22 at hR
    refine lv_iconst (v := 1) hx hb dX12_thread_22 (by decide) ?_
    exact J23 x1 x2 1 T hR _ _ _ w (lv_sub hl [0, 1, 2] rfl)
  have hl : lv_has ls 3 [(0, .ref (ad 52)), (1, .int p1), (2, .int p2)] := hl
  unfold fX12_thread at hR
  refine lv_aload_n hx hb dX12_thread_0 rfl (lv_at hl 0 rfl) ?_
  refine lv_aload_n hx hb dX12_thread_1 rfl (lv_at hl 0 rfl) ?_
  refine lv_iload_n hx hb dX12_thread_2 rfl (lv_at hl 1 rfl) ?_
  obtain ⟨r2, h1, hR⟩ := bd_e hR
  refine cVi (k := 52) (As := [.int p1]) (rest := [.ref (ad 52)]) X hl.1 w okX12_isEnd obX12 rfl lmX12_306 (kX12_isEnd h1) ⟨Nat.le_of_ble_eq_true rfl, Nat.le_of_ble_eq_true rfl⟩ ⟨rfl, rfl⟩ ⟨Nat.zero_le _, Nat.zero_le _⟩ rfl rfl (Nat.le_of_ble_eq_true rfl) dX12_thread_3 (fun H locs zr2 w => ?_)
  refine lv_if_eq (tgt := 22) hx hb dX12_thread_6 (by decide) (fun c3 => ?_) (fun c3 => ?_)
  · rw [if_pos c3] at hR
    exact J22 p1 p2 T hR _ _ _ w (lv_sub hl [0, 1, 2] rfl)
  · rw [if_neg c3] at hR
    refine lv_iload_n hx hb dX12_thread_9 rfl (lv_at hl 2 rfl) ?_
    refine lv_iconst (v := 0) hx hb dX12_thread_10 (by decide) ?_
    refine lv_iconst (v := 5) hx hb dX12_thread_11 (by decide) ?_
    obtain ⟨r5, h4, hR⟩ := bd_e hR
    refine cSi (As := [.int p2, .int 0, .int 5]) (rest := [.ref (ad 52)]) X hl.1 w okX12_in lmX12_208 (kX12_in h4) ⟨Nat.le_of_ble_eq_true rfl, Nat.le_of_ble_eq_true rfl⟩ ⟨rfl, rfl⟩ ⟨Nat.zero_le _, Nat.zero_le _⟩ rfl rfl (Nat.le_of_ble_eq_true rfl) dX12_thread_12 (fun H locs zr5 w => ?_)
    refine lv_if_eq (tgt := 22) hx hb dX12_thread_15 (by decide) (fun c6 => ?_) (fun c6 => ?_)
    · rw [if_pos c6] at hR
      exact J22 p1 p2 T hR _ _ _ w (lv_sub hl [0, 1, 2] rfl)
    · rw [if_neg c6] at hR
      refine lv_iconst (v := 0) hx hb dX12_thread_18 (by decide) ?_
      refine lv_goto (tgt := 23) hx hb dX12_thread_19 (by decide) ?_
      exact J23 p1 p2 0 T hR _ _ _ w (lv_sub hl [0, 1, 2] rfl)
/- LooseEndsModel.law(I)Z -/
def fX12_law (N : Nat) (T : SS) (p1 : Int32) : Option (SS × Int32) := bd (fX12_in N p1 (-1) ((gi T 52 13) - 1)) fun r2 =>
  if r2 = 0 then
  (some (T, 0))
  else
  (lt (pj T 52 25 p1) fun T4 =>
  some (T4, 1))
set_option maxHeartbeats 4000000 in
set_option maxRecDepth 100000 in
theorem kX12_law {l : Launch} {D : va_G} {dA : Nat → ClassId} {ad : Nat → Nat} {t1 t2 : Nat} {N : Nat} {S T : SS} {o : Nat → Int64} {p1 : Int32} {r : Int32} {T' : SS} (hR : fX12_law N T p1 = some (T', r)) : KI l D dA ad t1 t2 yX12_law cX12_law 2 .boolean { frames := 1, cells := 0, slots := 0, locals := 22 } [.ref (ad 52), .int p1] S T o r S T' := by
  intro sz
  refine en_ (plainFor_of_name (by decide)) (Nat.le_of_ble_eq_true rfl) ?_
  intro p ev s m args below meth c QQ hQ hsz X hr hlk w ls hl
  have hx := X.1
  have hb := X.2.1
  have hl : lv_has ls 2 [(0, .ref (ad 52)), (1, .int p1)] := hl
  unfold fX12_law at hR
  refine lv_iload_n hx hb dX12_law_0 rfl (lv_at hl 1 rfl) ?_
  refine lv_iconst (v := -1) hx hb dX12_law_1 (by decide) ?_
  refine lv_aload_n hx hb dX12_law_2 rfl (lv_at hl 0 rfl) ?_
  refine gX12_laws X w lfX12_264 dX12_law_3 ?_
  refine lv_iconst (v := 1) hx hb dX12_law_6 (by decide) ?_
  refine lv_isub hx hb dX12_law_7 ?_
  obtain ⟨r2, h1, hR⟩ := bd_e hR
  refine cSi (As := [.int p1, .int (-1), .int ((gi T 52 13) - 1)]) (rest := []) X hl.1 w okX12_in lmX12_208 (kX12_in h1) ⟨Nat.le_of_ble_eq_true rfl, Nat.le_of_ble_eq_true rfl⟩ ⟨rfl, rfl⟩ ⟨Nat.zero_le _, Nat.zero_le _⟩ rfl rfl (Nat.le_of_ble_eq_true rfl) dX12_law_8 (fun H locs zr2 w => ?_)
  refine lv_if_ne (tgt := 16) hx hb dX12_law_11 (by decide) (fun c3 => ?_) (fun c3 => ?_)
  · rw [if_neg c3] at hR
    refine lv_aload_n hx hb dX12_law_16 rfl (lv_at hl 0 rfl) ?_
    refine lv_iload_n hx hb dX12_law_17 rfl (lv_at hl 1 rfl) ?_
    obtain ⟨T4, eT4, hR⟩ := lt_e hR
    refine pX12_holding X w lfX12_58 dX12_law_18 (fun H locs w => ?_)
    rw [← eT4] at w
    refine lv_iconst (v := 1) hx hb dX12_law_21 (by decide) ?_
    rw [hQ]
    exact rt_i X hr hlk w hsz rfl rfl (lf2 hR).1 (lf2 hR).2 dX12_law_22
  · rw [if_pos c3] at hR
    refine lv_iconst (v := 0) hx hb dX12_law_14 (by decide) ?_
    rw [hQ]
    exact rt_i X hr hlk w hsz rfl rfl (lf2 hR).1 (lf2 hR).2 dX12_law_15
/- LooseEndsModel.keep()V -/
def fX12_keep_l54 (N : Nat) : Nat → Int32 → SS → Option (SS)
  | 0, _, _ => none
  | n + 1, x1, T => if 214 ≤ x1 then
  (lt (pj T 52 28 ((gi T 52 28) + 1)) fun T2 =>
  some T2)
  else
  (ck (inb x1 214) <|
  ck (inb ((214 * (gi T 52 28)) + x1) 8560) <|
  lt (pa T 69 ((214 * (gi T 52 28)) + x1) (ga T 67 x1)) fun T5 =>
  lt (x1 + 1) fun v6 =>
  fX12_keep_l54 N n v6 T5)
def fX12_keep_l13 (N : Nat) : Nat → Int32 → SS → Option (SS)
  | 0, _, _ => none
  | n + 1, x1, T => if 8560 ≤ x1 then
  (lt (pj T 52 28 ((gi T 52 28) - 1)) fun T2 =>
  fX12_keep_l54 N N 0 T2)
  else
  (ck (inb x1 8560) <|
  ck (inb (x1 - 214) 8560) <|
  lt (pa T 69 (x1 - 214) (ga T 69 x1)) fun T5 =>
  lt (x1 + 1) fun v6 =>
  fX12_keep_l13 N n v6 T5)
def fX12_keep (N : Nat) (T : SS) : Option (SS) := if (gi T 52 28) = 40 then
  (fX12_keep_l13 N N 214 T)
  else
  (fX12_keep_l54 N N 0 T)
set_option maxHeartbeats 4000000 in
set_option maxRecDepth 100000 in
theorem kX12_keep {l : Launch} {D : va_G} {dA : Nat → ClassId} {ad : Nat → Nat} {t1 t2 : Nat} {N : Nat} {S T : SS} {o : Nat → Int64} {T' : SS} (hR : fX12_keep N T = some T') : KV l D dA ad t1 t2 yX12_keep cX12_keep 2 { frames := 0, cells := 0, slots := 0, locals := 0 } [.ref (ad 52)] S T o S T' := by
  intro sz
  refine en_ (plainFor_of_name (by decide)) (Nat.le_of_ble_eq_true rfl) ?_
  intro p ev s m args below meth c QQ hQ hsz X hr hlk w ls hl
  have hx := X.1
  have hb := X.2.1
  have L54 : ∀ (n : Nat), ∀ (x1 : Int32) (T : SS), fX12_keep_l54 N n x1 T = some T' → WAT p l ev ({ frames := 0, cells := 0, slots := 0, locals := 0 } : Room) s m args below meth c QQ 2 D dA ad t1 t2 S T o 54 [(0, .ref (ad 52)), (1, .int x1)] [] := by
    intro n
    induction n with
    | zero =>
      intro x1 T hR
      exact nomatch hR
    | succ n ih =>
      intro x1 T hR H locs ls w hl
      rw [fX12_keep_l54] at hR
      refine lv_iload_n hx hb dX12_keep_54 rfl (lv_at hl 1 rfl) ?_
      refine lv_sipush (v := 214) hx hb dX12_keep_55 (by decide) ?_
      refine lv_icmp_ge (tgt := 88) hx hb dX12_keep_58 (by decide) (fun c1 => ?_) (fun c1 => ?_)
      · rw [if_pos c1] at hR
        refine lv_aload_n hx hb dX12_keep_88 rfl (lv_at hl 0 rfl) ?_
        refine lv_dup hx hb dX12_keep_89 rfl ?_
        refine gX12_acts X w lfX12_254 dX12_keep_90 ?_
        refine lv_iconst (v := 1) hx hb dX12_keep_93 (by decide) ?_
        refine lv_iadd hx hb dX12_keep_94 ?_
        obtain ⟨T2, eT2, hR⟩ := lt_e hR
        refine pX12_acts X w lfX12_254 dX12_keep_95 (fun H locs w => ?_)
        rw [← eT2] at w
        rw [hQ]
        exact rt_v X hr hlk w hsz rfl (lf1 hR) dX12_keep_98
      · rw [if_neg c1] at hR
        refine lv_aload_n hx hb dX12_keep_61 rfl (lv_at hl 0 rfl) ?_
        refine gX12_kept X w lfX12_65 dX12_keep_62 ?_
        refine lv_sipush (v := 214) hx hb dX12_keep_65 (by decide) ?_
        refine lv_aload_n hx hb dX12_keep_68 rfl (lv_at hl 0 rfl) ?_
        refine gX12_acts X w lfX12_254 dX12_keep_69 ?_
        refine lv_imul hx hb dX12_keep_72 ?_
        refine lv_iload_n hx hb dX12_keep_73 rfl (lv_at hl 1 rfl) ?_
        refine lv_iadd hx hb dX12_keep_74 ?_
        refine lv_aload_n hx hb dX12_keep_75 rfl (lv_at hl 0 rfl) ?_
        refine gX12_now X w lfX12_52 dX12_keep_76 ?_
        refine lv_iload_n hx hb dX12_keep_79 rfl (lv_at hl 1 rfl) ?_
        obtain ⟨g3, hR⟩ := ck_e hR
        refine ialT (n := 214) rfl (by decide) X w rfl g3 dX12_keep_80 ?_
        obtain ⟨g4, hR⟩ := ck_e hR
        obtain ⟨T5, eT5, hR⟩ := lt_e hR
        refine iasT (n := 8560) rfl (by decide) X w rfl g4 dX12_keep_81 (fun H locs w => ?_)
        rw [← eT5] at w
        obtain ⟨v6, ev6, hR⟩ := lt_e hR
        refine lv_iinc (v := v6) (lv' := [(1, .int v6), (0, .ref (ad 52))]) hx hb dX12_keep_82 hl (k := 1) rfl (by rw [ev6]; rfl) (by decide) rfl (fun ls hl => ?_)
        refine lv_goto (tgt := 54) hx hb dX12_keep_85 (by decide) ?_
        exact ih v6 T5 hR _ _ _ w (lv_sub hl [1, 0] rfl)
  have L13 : ∀ (n : Nat), ∀ (x1 : Int32) (T : SS), fX12_keep_l13 N n x1 T = some T' → WAT p l ev ({ frames := 0, cells := 0, slots := 0, locals := 0 } : Room) s m args below meth c QQ 2 D dA ad t1 t2 S T o 13 [(0, .ref (ad 52)), (1, .int x1)] [] := by
    intro n
    induction n with
    | zero =>
      intro x1 T hR
      exact nomatch hR
    | succ n ih =>
      intro x1 T hR H locs ls w hl
      rw [fX12_keep_l13] at hR
      refine lv_iload_n hx hb dX12_keep_13 rfl (lv_at hl 1 rfl) ?_
      refine lv_sipush (v := 8560) hx hb dX12_keep_14 (by decide) ?_
      refine lv_icmp_ge (tgt := 42) hx hb dX12_keep_17 (by decide) (fun c1 => ?_) (fun c1 => ?_)
      · rw [if_pos c1] at hR
        refine lv_aload_n hx hb dX12_keep_42 rfl (lv_at hl 0 rfl) ?_
        refine lv_dup hx hb dX12_keep_43 rfl ?_
        refine gX12_acts X w lfX12_254 dX12_keep_44 ?_
        refine lv_iconst (v := 1) hx hb dX12_keep_47 (by decide) ?_
        refine lv_isub hx hb dX12_keep_48 ?_
        obtain ⟨T2, eT2, hR⟩ := lt_e hR
        refine pX12_acts X w lfX12_254 dX12_keep_49 (fun H locs w => ?_)
        rw [← eT2] at w
        refine lv_iconst (v := 0) hx hb dX12_keep_52 (by decide) ?_
        refine lv_istore_n (lv' := [(1, .int 0), (0, .ref (ad 52))]) hx hb dX12_keep_53 rfl hl (by decide) rfl (fun ls hl => ?_)
        exact L54 N 0 T2 hR _ _ _ w (lv_sub hl [1, 0] rfl)
      · rw [if_neg c1] at hR
        refine lv_aload_n hx hb dX12_keep_20 rfl (lv_at hl 0 rfl) ?_
        refine gX12_kept X w lfX12_65 dX12_keep_21 ?_
        refine lv_iload_n hx hb dX12_keep_24 rfl (lv_at hl 1 rfl) ?_
        refine lv_sipush (v := 214) hx hb dX12_keep_25 (by decide) ?_
        refine lv_isub hx hb dX12_keep_28 ?_
        refine lv_aload_n hx hb dX12_keep_29 rfl (lv_at hl 0 rfl) ?_
        refine gX12_kept X w lfX12_65 dX12_keep_30 ?_
        refine lv_iload_n hx hb dX12_keep_33 rfl (lv_at hl 1 rfl) ?_
        obtain ⟨g3, hR⟩ := ck_e hR
        refine ialT (n := 8560) rfl (by decide) X w rfl g3 dX12_keep_34 ?_
        obtain ⟨g4, hR⟩ := ck_e hR
        obtain ⟨T5, eT5, hR⟩ := lt_e hR
        refine iasT (n := 8560) rfl (by decide) X w rfl g4 dX12_keep_35 (fun H locs w => ?_)
        rw [← eT5] at w
        obtain ⟨v6, ev6, hR⟩ := lt_e hR
        refine lv_iinc (v := v6) (lv' := [(1, .int v6), (0, .ref (ad 52))]) hx hb dX12_keep_36 hl (k := 1) rfl (by rw [ev6]; rfl) (by decide) rfl (fun ls hl => ?_)
        refine lv_goto (tgt := 13) hx hb dX12_keep_39 (by decide) ?_
        exact ih v6 T5 hR _ _ _ w (lv_sub hl [1, 0] rfl)
  have hl : lv_has ls 2 [(0, .ref (ad 52))] := hl
  unfold fX12_keep at hR
  refine lv_aload_n hx hb dX12_keep_0 rfl (lv_at hl 0 rfl) ?_
  refine gX12_acts X w lfX12_254 dX12_keep_1 ?_
  refine lv_bipush (v := 40) hx hb dX12_keep_4 (by decide) ?_
  refine lv_icmp_ne (tgt := 52) hx hb dX12_keep_6 (by decide) (fun c1 => ?_) (fun c1 => ?_)
  · rw [if_neg c1] at hR
    refine lv_iconst (v := 0) hx hb dX12_keep_52 (by decide) ?_
    refine lv_istore_n (lv' := [(1, .int 0), (0, .ref (ad 52))]) hx hb dX12_keep_53 rfl hl (by decide) rfl (fun ls hl => ?_)
    exact L54 N 0 T hR _ _ _ w (lv_sub hl [1, 0] rfl)
  · rw [if_pos c1] at hR
    refine lv_sipush (v := 214) hx hb dX12_keep_9 (by decide) ?_
    refine lv_istore_n (lv' := [(1, .int 214), (0, .ref (ad 52))]) hx hb dX12_keep_12 rfl hl (by decide) rfl (fun ls hl => ?_)
    exact L13 N 214 T hR _ _ _ w (lv_sub hl [1, 0] rfl)
/- LooseEndsModel.isRefused(I)Z -/
def fX12_isRefused_j15 (N : Nat) (x1 : Int32) (T : SS) : Option (SS × Int32) := if x1 = (-1) then
  (some (T, 0))
  else
  (some (T, 1))
def fX12_isRefused (N : Nat) (T : SS) (p1 : Int32) : Option (SS × Int32) := if p1 = (-1) then
  (fX12_isRefused_j15 N p1 T)
  else
  (ck (inb p1 5) <|
  ck (inb p1 5) <|
  lt (pa T 68 p1 ((ga T 68 p1) + 1)) fun T4 =>
  fX12_isRefused_j15 N p1 T4)
set_option maxHeartbeats 4000000 in
set_option maxRecDepth 100000 in
theorem kX12_isRefused {l : Launch} {D : va_G} {dA : Nat → ClassId} {ad : Nat → Nat} {t1 t2 : Nat} {N : Nat} {S T : SS} {o : Nat → Int64} {p1 : Int32} {r : Int32} {T' : SS} (hR : fX12_isRefused N T p1 = some (T', r)) : KI l D dA ad t1 t2 yX12_isRefused cX12_isRefused 2 .boolean { frames := 0, cells := 0, slots := 0, locals := 0 } [.ref (ad 52), .int p1] S T o r S T' := by
  intro sz
  refine en_ (plainFor_of_name (by decide)) (Nat.le_of_ble_eq_true rfl) ?_
  intro p ev s m args below meth c QQ hQ hsz X hr hlk w ls hl
  have hx := X.1
  have hb := X.2.1
  have J15 : ∀ (x1 : Int32) (T : SS), fX12_isRefused_j15 N x1 T = some (T', r) → WAT p l ev ({ frames := 0, cells := 0, slots := 0, locals := 0 } : Room) s m args below meth c QQ 2 D dA ad t1 t2 S T o 15 [(1, .int x1)] [] := by
    intro x1 T hR H locs ls w hl
    unfold fX12_isRefused_j15 at hR
    refine lv_iload_n hx hb dX12_isRefused_15 rfl (lv_at hl 0 rfl) ?_
    refine lv_iconst (v := -1) hx hb dX12_isRefused_16 (by decide) ?_
    refine lv_icmp_eq (tgt := 24) hx hb dX12_isRefused_17 (by decide) (fun c1 => ?_) (fun c1 => ?_)
    · rw [if_pos c1] at hR
      refine lv_iconst (v := 0) hx hb dX12_isRefused_24 (by decide) ?_
      rw [hQ]
      exact rt_i X hr hlk w hsz rfl rfl (lf2 hR).1 (lf2 hR).2 dX12_isRefused_25
    · rw [if_neg c1] at hR
      refine lv_iconst (v := 1) hx hb dX12_isRefused_20 (by decide) ?_
      refine lv_goto (tgt := 25) hx hb dX12_isRefused_21 (by decide) ?_
      rw [hQ]
      exact rt_i X hr hlk w hsz rfl rfl (lf2 hR).1 (lf2 hR).2 dX12_isRefused_25
  have hl : lv_has ls 2 [(0, .ref (ad 52)), (1, .int p1)] := hl
  unfold fX12_isRefused at hR
  refine lv_iload_n hx hb dX12_isRefused_0 rfl (lv_at hl 1 rfl) ?_
  refine lv_iconst (v := -1) hx hb dX12_isRefused_1 (by decide) ?_
  refine lv_icmp_eq (tgt := 15) hx hb dX12_isRefused_2 (by decide) (fun c1 => ?_) (fun c1 => ?_)
  · rw [if_pos c1] at hR
    exact J15 p1 T hR _ _ _ w (lv_sub hl [1] rfl)
  · rw [if_neg c1] at hR
    refine lv_aload_n hx hb dX12_isRefused_5 rfl (lv_at hl 0 rfl) ?_
    refine gX12_refused X w lfX12_55 dX12_isRefused_6 ?_
    refine lv_iload_n hx hb dX12_isRefused_9 rfl (lv_at hl 1 rfl) ?_
    refine lv_dup2_11 hx hb dX12_isRefused_10 rfl rfl ?_
    obtain ⟨g2, hR⟩ := ck_e hR
    refine ialT (n := 5) rfl (by decide) X w rfl g2 dX12_isRefused_11 ?_
    refine lv_iconst (v := 1) hx hb dX12_isRefused_12 (by decide) ?_
    refine lv_iadd hx hb dX12_isRefused_13 ?_
    obtain ⟨g3, hR⟩ := ck_e hR
    obtain ⟨T4, eT4, hR⟩ := lt_e hR
    refine iasT (n := 5) rfl (by decide) X w rfl g3 dX12_isRefused_14 (fun H locs w => ?_)
    rw [← eT4] at w
    exact J15 p1 T4 hR _ _ _ w (lv_sub hl [1] rfl)
/- LooseEndsModel.attempt(II)I -/
def fX12_attempt_j64 (N : Nat) (x1 : Int32) (x2 : Int32) (y0 : Int32) (T : SS) : Option (SS × Int32) := b2 (fX12_isRefused N T y0) fun T3 r2 =>
  if r2 = 0 then
  (bd (fX12_keep N T3) fun T6 =>
  b2 (fX12_tryNow N T6 x1 x2) fun T9 r8 =>
  some (T9, r8))
  else
  (some (T3, (-1)))
def fX12_attempt_j17 (N : Nat) (x1 : Int32) (x2 : Int32) (T : SS) : Option (SS × Int32) := fX12_attempt_j64 N x1 x2 0 T
def fX12_attempt (N : Nat) (T : SS) (p1 : Int32) (p2 : Int32) : Option (SS × Int32) := bd (fX12_isEnd N T p1) fun r2 =>
  if r2 = 0 then
  (fX12_attempt_j17 N p1 p2 T)
  else
  (bd (fX12_isEnd N T p2) fun r5 =>
  if r5 = 0 then
  (fX12_attempt_j17 N p1 p2 T)
  else
  (if p1 = p2 then
  (fX12_attempt_j64 N p1 p2 1 T)
  else
  (bd (fX12_mayTry N T p1 p2) fun r9 =>
  if r9 = 0 then
  (fX12_attempt_j64 N p1 p2 2 T)
  else
  (if (ga T 67 29) < (ga T 65 2) then
  (fX12_attempt_j64 N p1 p2 (-1) T)
  else
  (fX12_attempt_j64 N p1 p2 3 T)))))
set_option maxHeartbeats 4000000 in
set_option maxRecDepth 100000 in
theorem kX12_attempt {l : Launch} {D : va_G} {dA : Nat → ClassId} {ad : Nat → Nat} {t1 t2 : Nat} {N : Nat} {S T : SS} {o : Nat → Int64} {p1 : Int32} {p2 : Int32} {r : Int32} {T' : SS} (hR : fX12_attempt N T p1 p2 = some (T', r)) : KI l D dA ad t1 t2 yX12_attempt cX12_attempt 3 .int { frames := 9, cells := 0, slots := 0, locals := 202 } [.ref (ad 52), .int p1, .int p2] S T o r S T' := by
  intro sz
  refine en_ (plainFor_of_name (by decide)) (Nat.le_of_ble_eq_true rfl) ?_
  intro p ev s m args below meth c QQ hQ hsz X hr hlk w ls hl
  have hx := X.1
  have hb := X.2.1
  have J64 : ∀ (x1 : Int32) (x2 : Int32) (y0 : Int32) (T : SS), fX12_attempt_j64 N x1 x2 y0 T = some (T', r) → WAT p l ev ({ frames := 9, cells := 0, slots := 0, locals := 202 } : Room) s m args below meth c QQ 3 D dA ad t1 t2 S T o 64 [(0, .ref (ad 52)), (1, .int x1), (2, .int x2)] [.int y0, .ref (ad 52)] := by
    intro x1 x2 y0 T hR H locs ls w hl
    unfold fX12_attempt_j64 at hR
    obtain ⟨T3, r2, h1, hR⟩ := b2_e hR
    refine cVi (k := 52) (As := [.int y0]) (rest := []) X hl.1 w okX12_isRefused obX12 rfl lmX12_312 (kX12_isRefused h1) ⟨Nat.le_of_ble_eq_true rfl, Nat.le_of_ble_eq_true rfl⟩ ⟨rfl, rfl⟩ ⟨Nat.zero_le _, Nat.zero_le _⟩ rfl rfl (Nat.le_of_ble_eq_true rfl) dX12_attempt_64 (fun H locs zr2 w => ?_)
    refine lv_if_eq (tgt := 72) hx hb dX12_attempt_67 (by decide) (fun c4 => ?_) (fun c4 => ?_)
    · rw [if_pos c4] at hR
      refine lv_aload_n hx hb dX12_attempt_72 rfl (lv_at hl 0 rfl) ?_
      obtain ⟨T6, h5, hR⟩ := bd_e hR
      refine cVv (k := 52) (As := []) (rest := []) X hl.1 w okX12_keep obX12 rfl lmX12_315 (kX12_keep h5) ⟨Nat.le_of_ble_eq_true rfl, Nat.le_of_ble_eq_true rfl⟩ ⟨rfl, rfl⟩ ⟨Nat.zero_le _, Nat.zero_le _⟩ rfl rfl (Nat.le_of_ble_eq_true rfl) dX12_attempt_73 (fun H locs w => ?_)
      refine lv_aload_n hx hb dX12_attempt_76 rfl (lv_at hl 0 rfl) ?_
      refine lv_iload_n hx hb dX12_attempt_77 rfl (lv_at hl 1 rfl) ?_
      refine lv_iload_n hx hb dX12_attempt_78 rfl (lv_at hl 2 rfl) ?_
      obtain ⟨T9, r8, h7, hR⟩ := b2_e hR
      refine cVi (k := 52) (As := [.int x1, .int x2]) (rest := []) X hl.1 w okX12_tryNow obX12 rfl lmX12_318 (kX12_tryNow h7) ⟨Nat.le_of_ble_eq_true rfl, Nat.le_of_ble_eq_true rfl⟩ ⟨rfl, rfl⟩ ⟨Nat.zero_le _, Nat.zero_le _⟩ rfl rfl (Nat.le_of_ble_eq_true rfl) dX12_attempt_79 (fun H locs zr8 w => ?_)
      rw [hQ]
      exact rt_i X hr hlk w hsz rfl rfl (lf2 hR).1 (lf2 hR).2 dX12_attempt_82
    · rw [if_neg c4] at hR
      refine lv_iconst (v := -1) hx hb dX12_attempt_70 (by decide) ?_
      rw [hQ]
      exact rt_i X hr hlk w hsz rfl rfl (lf2 hR).1 (lf2 hR).2 dX12_attempt_71
  have J17 : ∀ (x1 : Int32) (x2 : Int32) (T : SS), fX12_attempt_j17 N x1 x2 T = some (T', r) → WAT p l ev ({ frames := 9, cells := 0, slots := 0, locals := 202 } : Room) s m args below meth c QQ 3 D dA ad t1 t2 S T o 17 [(0, .ref (ad 52)), (1, .int x1), (2, .int x2)] [.ref (ad 52)] := by
    intro x1 x2 T hR H locs ls w hl
    unfold fX12_attempt_j17 at hR
    refine lv_iconst (v := 0) hx hb dX12_attempt_17 (by decide) ?_
    refine lv_goto (tgt := 64) hx hb dX12_attempt_18 (by decide) ?_
    exact J64 x1 x2 0 T hR _ _ _ w (lv_sub hl [0, 1, 2] rfl)
  have hl : lv_has ls 3 [(0, .ref (ad 52)), (1, .int p1), (2, .int p2)] := hl
  unfold fX12_attempt at hR
  refine lv_aload_n hx hb dX12_attempt_0 rfl (lv_at hl 0 rfl) ?_
  refine lv_aload_n hx hb dX12_attempt_1 rfl (lv_at hl 0 rfl) ?_
  refine lv_iload_n hx hb dX12_attempt_2 rfl (lv_at hl 1 rfl) ?_
  obtain ⟨r2, h1, hR⟩ := bd_e hR
  refine cVi (k := 52) (As := [.int p1]) (rest := [.ref (ad 52)]) X hl.1 w okX12_isEnd obX12 rfl lmX12_306 (kX12_isEnd h1) ⟨Nat.le_of_ble_eq_true rfl, Nat.le_of_ble_eq_true rfl⟩ ⟨rfl, rfl⟩ ⟨Nat.zero_le _, Nat.zero_le _⟩ rfl rfl (Nat.le_of_ble_eq_true rfl) dX12_attempt_3 (fun H locs zr2 w => ?_)
  refine lv_if_eq (tgt := 17) hx hb dX12_attempt_6 (by decide) (fun c3 => ?_) (fun c3 => ?_)
  · rw [if_pos c3] at hR
    exact J17 p1 p2 T hR _ _ _ w (lv_sub hl [0, 1, 2] rfl)
  · rw [if_neg c3] at hR
    refine lv_aload_n hx hb dX12_attempt_9 rfl (lv_at hl 0 rfl) ?_
    refine lv_iload_n hx hb dX12_attempt_10 rfl (lv_at hl 2 rfl) ?_
    obtain ⟨r5, h4, hR⟩ := bd_e hR
    refine cVi (k := 52) (As := [.int p2]) (rest := [.ref (ad 52)]) X hl.1 w okX12_isEnd obX12 rfl lmX12_306 (kX12_isEnd h4) ⟨Nat.le_of_ble_eq_true rfl, Nat.le_of_ble_eq_true rfl⟩ ⟨rfl, rfl⟩ ⟨Nat.zero_le _, Nat.zero_le _⟩ rfl rfl (Nat.le_of_ble_eq_true rfl) dX12_attempt_11 (fun H locs zr5 w => ?_)
    refine lv_if_ne (tgt := 21) hx hb dX12_attempt_14 (by decide) (fun c6 => ?_) (fun c6 => ?_)
    · rw [if_neg c6] at hR
      refine lv_iload_n hx hb dX12_attempt_21 rfl (lv_at hl 1 rfl) ?_
      refine lv_iload_n hx hb dX12_attempt_22 rfl (lv_at hl 2 rfl) ?_
      refine lv_icmp_ne (tgt := 30) hx hb dX12_attempt_23 (by decide) (fun c7 => ?_) (fun c7 => ?_)
      · rw [if_neg c7] at hR
        refine lv_aload_n hx hb dX12_attempt_30 rfl (lv_at hl 0 rfl) ?_
        refine lv_iload_n hx hb dX12_attempt_31 rfl (lv_at hl 1 rfl) ?_
        refine lv_iload_n hx hb dX12_attempt_32 rfl (lv_at hl 2 rfl) ?_
        obtain ⟨r9, h8, hR⟩ := bd_e hR
        refine cVi (k := 52) (As := [.int p1, .int p2]) (rest := [.ref (ad 52)]) X hl.1 w okX12_mayTry obX12 rfl lmX12_309 (kX12_mayTry h8) ⟨Nat.le_of_ble_eq_true rfl, Nat.le_of_ble_eq_true rfl⟩ ⟨rfl, rfl⟩ ⟨Nat.zero_le _, Nat.zero_le _⟩ rfl rfl (Nat.le_of_ble_eq_true rfl) dX12_attempt_33 (fun H locs zr9 w => ?_)
        refine lv_if_ne (tgt := 43) hx hb dX12_attempt_36 (by decide) (fun c10 => ?_) (fun c10 => ?_)
        · rw [if_neg c10] at hR
          refine lv_aload_n hx hb dX12_attempt_43 rfl (lv_at hl 0 rfl) ?_
          refine gX12_now X w lfX12_52 dX12_attempt_44 ?_
          refine lv_bipush (v := 29) hx hb dX12_attempt_47 (by decide) ?_
          refine ialT (n := 214) rfl (by decide) X w rfl (by decide) dX12_attempt_49 ?_
          refine lv_aload_n hx hb dX12_attempt_50 rfl (lv_at hl 0 rfl) ?_
          refine gX12_rule X w lfX12_46 dX12_attempt_51 ?_
          refine lv_iconst (v := 2) hx hb dX12_attempt_54 (by decide) ?_
          refine ialT (n := 4) rfl (by decide) X w rfl (by decide) dX12_attempt_55 ?_
          refine lv_icmp_lt (tgt := 63) hx hb dX12_attempt_56 (by decide) (fun c11 => ?_) (fun c11 => ?_)
          · rw [if_pos c11] at hR
            refine lv_iconst (v := -1) hx hb dX12_attempt_63 (by decide) ?_
            exact J64 p1 p2 (-1) T hR _ _ _ w (lv_sub hl [0, 1, 2] rfl)
          · rw [if_neg c11] at hR
            refine lv_iconst (v := 3) hx hb dX12_attempt_59 (by decide) ?_
            refine lv_goto (tgt := 64) hx hb dX12_attempt_60 (by decide) ?_
            exact J64 p1 p2 3 T hR _ _ _ w (lv_sub hl [0, 1, 2] rfl)
        · rw [if_pos c10] at hR
          refine lv_iconst (v := 2) hx hb dX12_attempt_39 (by decide) ?_
          refine lv_goto (tgt := 64) hx hb dX12_attempt_40 (by decide) ?_
          exact J64 p1 p2 2 T hR _ _ _ w (lv_sub hl [0, 1, 2] rfl)
      · rw [if_pos c7] at hR
        refine lv_iconst (v := 1) hx hb dX12_attempt_26 (by decide) ?_
        refine lv_goto (tgt := 64) hx hb dX12_attempt_27 (by decide) ?_
        exact J64 p1 p2 1 T hR _ _ _ w (lv_sub hl [0, 1, 2] rfl)
    · rw [if_pos c6] at hR
      exact J17 p1 p2 T hR _ _ _ w (lv_sub hl [0, 1, 2] rfl)
/- LooseEndsModel.pull(I)I -/
def fX12_pull_j38 (N : Nat) (x1 : Int32) (y0 : Int32) (T : SS) : Option (SS × Int32) := b2 (fX12_isRefused N T y0) fun T3 r2 =>
  if r2 = 0 then
  (bd (fX12_keep N T3) fun T6 =>
  b2 (fX12_pullNow N T6 x1) fun T9 r8 =>
  some (T9, r8))
  else
  (some (T3, (-1)))
def fX12_pull (N : Nat) (T : SS) (p1 : Int32) : Option (SS × Int32) := bd (fX12_isEnd N T p1) fun r2 =>
  if r2 = 0 then
  (fX12_pull_j38 N p1 0 T)
  else
  (bd (fX12_isSold N T p1) fun r5 =>
  if r5 = 0 then
  (bd (fX12_isKnotted N T p1) fun r8 =>
  if r8 = 0 then
  (fX12_pull_j38 N p1 3 T)
  else
  (fX12_pull_j38 N p1 (-1) T))
  else
  (fX12_pull_j38 N p1 2 T))
set_option maxHeartbeats 4000000 in
set_option maxRecDepth 100000 in
theorem kX12_pull {l : Launch} {D : va_G} {dA : Nat → ClassId} {ad : Nat → Nat} {t1 t2 : Nat} {N : Nat} {S T : SS} {o : Nat → Int64} {p1 : Int32} {r : Int32} {T' : SS} (hR : fX12_pull N T p1 = some (T', r)) : KI l D dA ad t1 t2 yX12_pull cX12_pull 2 .int { frames := 3, cells := 0, slots := 0, locals := 60 } [.ref (ad 52), .int p1] S T o r S T' := by
  intro sz
  refine en_ (plainFor_of_name (by decide)) (Nat.le_of_ble_eq_true rfl) ?_
  intro p ev s m args below meth c QQ hQ hsz X hr hlk w ls hl
  have hx := X.1
  have hb := X.2.1
  have J38 : ∀ (x1 : Int32) (y0 : Int32) (T : SS), fX12_pull_j38 N x1 y0 T = some (T', r) → WAT p l ev ({ frames := 3, cells := 0, slots := 0, locals := 60 } : Room) s m args below meth c QQ 2 D dA ad t1 t2 S T o 38 [(0, .ref (ad 52)), (1, .int x1)] [.int y0, .ref (ad 52)] := by
    intro x1 y0 T hR H locs ls w hl
    unfold fX12_pull_j38 at hR
    obtain ⟨T3, r2, h1, hR⟩ := b2_e hR
    refine cVi (k := 52) (As := [.int y0]) (rest := []) X hl.1 w okX12_isRefused obX12 rfl lmX12_312 (kX12_isRefused h1) ⟨Nat.le_of_ble_eq_true rfl, Nat.le_of_ble_eq_true rfl⟩ ⟨rfl, rfl⟩ ⟨Nat.zero_le _, Nat.zero_le _⟩ rfl rfl (Nat.le_of_ble_eq_true rfl) dX12_pull_38 (fun H locs zr2 w => ?_)
    refine lv_if_eq (tgt := 46) hx hb dX12_pull_41 (by decide) (fun c4 => ?_) (fun c4 => ?_)
    · rw [if_pos c4] at hR
      refine lv_aload_n hx hb dX12_pull_46 rfl (lv_at hl 0 rfl) ?_
      obtain ⟨T6, h5, hR⟩ := bd_e hR
      refine cVv (k := 52) (As := []) (rest := []) X hl.1 w okX12_keep obX12 rfl lmX12_315 (kX12_keep h5) ⟨Nat.le_of_ble_eq_true rfl, Nat.le_of_ble_eq_true rfl⟩ ⟨rfl, rfl⟩ ⟨Nat.zero_le _, Nat.zero_le _⟩ rfl rfl (Nat.le_of_ble_eq_true rfl) dX12_pull_47 (fun H locs w => ?_)
      refine lv_aload_n hx hb dX12_pull_50 rfl (lv_at hl 0 rfl) ?_
      refine lv_iload_n hx hb dX12_pull_51 rfl (lv_at hl 1 rfl) ?_
      obtain ⟨T9, r8, h7, hR⟩ := b2_e hR
      refine cVi (k := 52) (As := [.int x1]) (rest := []) X hl.1 w okX12_pullNow obX12 rfl lmX12_321 (kX12_pullNow h7) ⟨Nat.le_of_ble_eq_true rfl, Nat.le_of_ble_eq_true rfl⟩ ⟨rfl, rfl⟩ ⟨Nat.zero_le _, Nat.zero_le _⟩ rfl rfl (Nat.le_of_ble_eq_true rfl) dX12_pull_52 (fun H locs zr8 w => ?_)
      rw [hQ]
      exact rt_i X hr hlk w hsz rfl rfl (lf2 hR).1 (lf2 hR).2 dX12_pull_55
    · rw [if_neg c4] at hR
      refine lv_iconst (v := -1) hx hb dX12_pull_44 (by decide) ?_
      rw [hQ]
      exact rt_i X hr hlk w hsz rfl rfl (lf2 hR).1 (lf2 hR).2 dX12_pull_45
  have hl : lv_has ls 2 [(0, .ref (ad 52)), (1, .int p1)] := hl
  unfold fX12_pull at hR
  refine lv_aload_n hx hb dX12_pull_0 rfl (lv_at hl 0 rfl) ?_
  refine lv_aload_n hx hb dX12_pull_1 rfl (lv_at hl 0 rfl) ?_
  refine lv_iload_n hx hb dX12_pull_2 rfl (lv_at hl 1 rfl) ?_
  obtain ⟨r2, h1, hR⟩ := bd_e hR
  refine cVi (k := 52) (As := [.int p1]) (rest := [.ref (ad 52)]) X hl.1 w okX12_isEnd obX12 rfl lmX12_306 (kX12_isEnd h1) ⟨Nat.le_of_ble_eq_true rfl, Nat.le_of_ble_eq_true rfl⟩ ⟨rfl, rfl⟩ ⟨Nat.zero_le _, Nat.zero_le _⟩ rfl rfl (Nat.le_of_ble_eq_true rfl) dX12_pull_3 (fun H locs zr2 w => ?_)
  refine lv_if_ne (tgt := 13) hx hb dX12_pull_6 (by decide) (fun c3 => ?_) (fun c3 => ?_)
  · rw [if_neg c3] at hR
    refine lv_aload_n hx hb dX12_pull_13 rfl (lv_at hl 0 rfl) ?_
    refine lv_iload_n hx hb dX12_pull_14 rfl (lv_at hl 1 rfl) ?_
    obtain ⟨r5, h4, hR⟩ := bd_e hR
    refine cVi (k := 52) (As := [.int p1]) (rest := [.ref (ad 52)]) X hl.1 w okX12_isSold obX12 rfl lmX12_267 (kX12_isSold h4) ⟨Nat.le_of_ble_eq_true rfl, Nat.le_of_ble_eq_true rfl⟩ ⟨rfl, rfl⟩ ⟨Nat.zero_le _, Nat.zero_le _⟩ rfl rfl (Nat.le_of_ble_eq_true rfl) dX12_pull_15 (fun H locs zr5 w => ?_)
    refine lv_if_eq (tgt := 25) hx hb dX12_pull_18 (by decide) (fun c6 => ?_) (fun c6 => ?_)
    · rw [if_pos c6] at hR
      refine lv_aload_n hx hb dX12_pull_25 rfl (lv_at hl 0 rfl) ?_
      refine lv_iload_n hx hb dX12_pull_26 rfl (lv_at hl 1 rfl) ?_
      obtain ⟨r8, h7, hR⟩ := bd_e hR
      refine cVi (k := 52) (As := [.int p1]) (rest := [.ref (ad 52)]) X hl.1 w okX12_isKnotted obX12 rfl lmX12_270 (kX12_isKnotted h7) ⟨Nat.le_of_ble_eq_true rfl, Nat.le_of_ble_eq_true rfl⟩ ⟨rfl, rfl⟩ ⟨Nat.zero_le _, Nat.zero_le _⟩ rfl rfl (Nat.le_of_ble_eq_true rfl) dX12_pull_27 (fun H locs zr8 w => ?_)
      refine lv_if_ne (tgt := 37) hx hb dX12_pull_30 (by decide) (fun c9 => ?_) (fun c9 => ?_)
      · rw [if_neg c9] at hR
        refine lv_iconst (v := -1) hx hb dX12_pull_37 (by decide) ?_
        exact J38 p1 (-1) T hR _ _ _ w (lv_sub hl [0, 1] rfl)
      · rw [if_pos c9] at hR
        refine lv_iconst (v := 3) hx hb dX12_pull_33 (by decide) ?_
        refine lv_goto (tgt := 38) hx hb dX12_pull_34 (by decide) ?_
        exact J38 p1 3 T hR _ _ _ w (lv_sub hl [0, 1] rfl)
    · rw [if_neg c6] at hR
      refine lv_iconst (v := 2) hx hb dX12_pull_21 (by decide) ?_
      refine lv_goto (tgt := 38) hx hb dX12_pull_22 (by decide) ?_
      exact J38 p1 2 T hR _ _ _ w (lv_sub hl [0, 1] rfl)
  · rw [if_pos c3] at hR
    refine lv_iconst (v := 0) hx hb dX12_pull_9 (by decide) ?_
    refine lv_goto (tgt := 38) hx hb dX12_pull_10 (by decide) ?_
    exact J38 p1 0 T hR _ _ _ w (lv_sub hl [0, 1] rfl)
/- LooseEndsModel.sell(I)I -/
def fX12_sell_l100 (N : Nat) : Nat → Int32 → SS → Option (SS × Int32)
  | 0, _, _ => none
  | n + 1, x2, T => if x2 = (-1) then
  (some (T, ga T 67 31))
  else
  (lt (pa T 67 28 ((ga T 67 28) ||| (sl 1 x2))) fun T2 =>
  ck (inb (14 + x2) 214) <|
  lt (ga T2 67 (14 + x2)) fun v4 =>
  fX12_sell_l100 N n v4 T2)
def fX12_sell_j60 (N : Nat) (x1 : Int32) (y0 : Int32) (T : SS) : Option (SS × Int32) := b2 (fX12_isRefused N T y0) fun T3 r2 =>
  if r2 = 0 then
  (bd (fX12_keep N T3) fun T6 =>
  bd (fX12_worthOfTale N T6 x1) fun r8 =>
  lt (pa T6 67 31 (mn 9999 ((ga T6 67 31) + r8))) fun T9 =>
  fX12_sell_l100 N N x1 T9)
  else
  (some (T3, (-1)))
def fX12_sell (N : Nat) (T : SS) (p1 : Int32) : Option (SS × Int32) := bd (fX12_isEnd N T p1) fun r2 =>
  if r2 = 0 then
  (fX12_sell_j60 N p1 0 T)
  else
  (ck (inb (21 + p1) 214) <|
  if (ga T 67 (21 + p1)) = (-1) then
  (bd (fX12_isSold N T p1) fun r7 =>
  if r7 = 0 then
  (ck (inb (14 + p1) 214) <|
  if (ga T 67 (14 + p1)) = (-1) then
  (fX12_sell_j60 N p1 3 T)
  else
  (fX12_sell_j60 N p1 (-1) T))
  else
  (fX12_sell_j60 N p1 2 T))
  else
  (fX12_sell_j60 N p1 1 T))
set_option maxHeartbeats 4000000 in
set_option maxRecDepth 100000 in
theorem kX12_sell {l : Launch} {D : va_G} {dA : Nat → ClassId} {ad : Nat → Nat} {t1 t2 : Nat} {N : Nat} {S T : SS} {o : Nat → Int64} {p1 : Int32} {r : Int32} {T' : SS} (hR : fX12_sell N T p1 = some (T', r)) : KI l D dA ad t1 t2 yX12_sell cX12_sell 3 .int { frames := 3, cells := 0, slots := 0, locals := 66 } [.ref (ad 52), .int p1] S T o r S T' := by
  intro sz
  refine en_ (plainFor_of_name (by decide)) (Nat.le_of_ble_eq_true rfl) ?_
  intro p ev s m args below meth c QQ hQ hsz X hr hlk w ls hl
  have hx := X.1
  have hb := X.2.1
  have L100 : ∀ (n : Nat), ∀ (x2 : Int32) (T : SS), fX12_sell_l100 N n x2 T = some (T', r) → WAT p l ev ({ frames := 3, cells := 0, slots := 0, locals := 66 } : Room) s m args below meth c QQ 3 D dA ad t1 t2 S T o 100 [(0, .ref (ad 52)), (2, .int x2)] [] := by
    intro n
    induction n with
    | zero =>
      intro x2 T hR
      exact nomatch hR
    | succ n ih =>
      intro x2 T hR H locs ls w hl
      rw [fX12_sell_l100] at hR
      refine lv_iload_n hx hb dX12_sell_100 rfl (lv_at hl 1 rfl) ?_
      refine lv_iconst (v := -1) hx hb dX12_sell_101 (by decide) ?_
      refine lv_icmp_eq (tgt := 131) hx hb dX12_sell_102 (by decide) (fun c1 => ?_) (fun c1 => ?_)
      · rw [if_pos c1] at hR
        refine lv_aload_n hx hb dX12_sell_131 rfl (lv_at hl 0 rfl) ?_
        refine gX12_now X w lfX12_52 dX12_sell_132 ?_
        refine lv_bipush (v := 31) hx hb dX12_sell_135 (by decide) ?_
        refine ialT (n := 214) rfl (by decide) X w rfl (by decide) dX12_sell_137 ?_
        rw [hQ]
        exact rt_i X hr hlk w hsz rfl rfl (lf2 hR).1 (lf2 hR).2 dX12_sell_138
      · rw [if_neg c1] at hR
        refine lv_aload_n hx hb dX12_sell_105 rfl (lv_at hl 0 rfl) ?_
        refine gX12_now X w lfX12_52 dX12_sell_106 ?_
        refine lv_bipush (v := 28) hx hb dX12_sell_109 (by decide) ?_
        refine lv_dup2_11 hx hb dX12_sell_111 rfl rfl ?_
        refine ialT (n := 214) rfl (by decide) X w rfl (by decide) dX12_sell_112 ?_
        refine lv_iconst (v := 1) hx hb dX12_sell_113 (by decide) ?_
        refine lv_iload_n hx hb dX12_sell_114 rfl (lv_at hl 1 rfl) ?_
        refine lv_ishl hx hb dX12_sell_115 ?_
        refine lv_ior hx hb dX12_sell_116 ?_
        obtain ⟨T2, eT2, hR⟩ := lt_e hR
        refine iasT (n := 214) rfl (by decide) X w rfl (by decide) dX12_sell_117 (fun H locs w => ?_)
        rw [← eT2] at w
        refine lv_aload_n hx hb dX12_sell_118 rfl (lv_at hl 0 rfl) ?_
        refine gX12_now X w lfX12_52 dX12_sell_119 ?_
        refine lv_bipush (v := 14) hx hb dX12_sell_122 (by decide) ?_
        refine lv_iload_n hx hb dX12_sell_124 rfl (lv_at hl 1 rfl) ?_
        refine lv_iadd hx hb dX12_sell_125 ?_
        obtain ⟨g3, hR⟩ := ck_e hR
        refine ialT (n := 214) rfl (by decide) X w rfl g3 dX12_sell_126 ?_
        obtain ⟨v4, ev4, hR⟩ := lt_e hR
        refine nm_i ev4 ?_
        refine lv_istore_n (lv' := [(2, .int v4), (0, .ref (ad 52))]) hx hb dX12_sell_127 rfl hl (by decide) rfl (fun ls hl => ?_)
        refine lv_goto (tgt := 100) hx hb dX12_sell_128 (by decide) ?_
        exact ih v4 T2 hR _ _ _ w (lv_sub hl [1, 0] rfl)
  have J60 : ∀ (x1 : Int32) (y0 : Int32) (T : SS), fX12_sell_j60 N x1 y0 T = some (T', r) → WAT p l ev ({ frames := 3, cells := 0, slots := 0, locals := 66 } : Room) s m args below meth c QQ 3 D dA ad t1 t2 S T o 60 [(0, .ref (ad 52)), (1, .int x1)] [.int y0, .ref (ad 52)] := by
    intro x1 y0 T hR H locs ls w hl
    unfold fX12_sell_j60 at hR
    obtain ⟨T3, r2, h1, hR⟩ := b2_e hR
    refine cVi (k := 52) (As := [.int y0]) (rest := []) X hl.1 w okX12_isRefused obX12 rfl lmX12_312 (kX12_isRefused h1) ⟨Nat.le_of_ble_eq_true rfl, Nat.le_of_ble_eq_true rfl⟩ ⟨rfl, rfl⟩ ⟨Nat.zero_le _, Nat.zero_le _⟩ rfl rfl (Nat.le_of_ble_eq_true rfl) dX12_sell_60 (fun H locs zr2 w => ?_)
    refine lv_if_eq (tgt := 68) hx hb dX12_sell_63 (by decide) (fun c4 => ?_) (fun c4 => ?_)
    · rw [if_pos c4] at hR
      refine lv_aload_n hx hb dX12_sell_68 rfl (lv_at hl 0 rfl) ?_
      obtain ⟨T6, h5, hR⟩ := bd_e hR
      refine cVv (k := 52) (As := []) (rest := []) X hl.1 w okX12_keep obX12 rfl lmX12_315 (kX12_keep h5) ⟨Nat.le_of_ble_eq_true rfl, Nat.le_of_ble_eq_true rfl⟩ ⟨rfl, rfl⟩ ⟨Nat.zero_le _, Nat.zero_le _⟩ rfl rfl (Nat.le_of_ble_eq_true rfl) dX12_sell_69 (fun H locs w => ?_)
      refine lv_aload_n hx hb dX12_sell_72 rfl (lv_at hl 0 rfl) ?_
      refine gX12_now X w lfX12_52 dX12_sell_73 ?_
      refine lv_bipush (v := 31) hx hb dX12_sell_76 (by decide) ?_
      refine lv_sipush (v := 9999) hx hb dX12_sell_78 (by decide) ?_
      refine lv_aload_n hx hb dX12_sell_81 rfl (lv_at hl 0 rfl) ?_
      refine gX12_now X w lfX12_52 dX12_sell_82 ?_
      refine lv_bipush (v := 31) hx hb dX12_sell_85 (by decide) ?_
      refine ialT (n := 214) rfl (by decide) X w rfl (by decide) dX12_sell_87 ?_
      refine lv_aload_n hx hb dX12_sell_88 rfl (lv_at hl 0 rfl) ?_
      refine lv_iload_n hx hb dX12_sell_89 rfl (lv_at hl 1 rfl) ?_
      obtain ⟨r8, h7, hR⟩ := bd_e hR
      refine cVi (k := 52) (As := [.int x1]) (rest := [.int (ga T6 67 31), .int 9999, .int 31, .ref (ad 67)]) X hl.1 w okX12_worthOfTale obX12 rfl lmX12_324 (kX12_worthOfTale h7) ⟨Nat.le_of_ble_eq_true rfl, Nat.le_of_ble_eq_true rfl⟩ ⟨rfl, rfl⟩ ⟨Nat.zero_le _, Nat.zero_le _⟩ rfl rfl (Nat.le_of_ble_eq_true rfl) dX12_sell_90 (fun H locs zr8 w => ?_)
      refine lv_iadd hx hb dX12_sell_93 ?_
      refine mnI X hl.1 lmX12_327 ⟨Nat.le_of_ble_eq_true rfl, Nat.le_of_ble_eq_true rfl⟩ ⟨Nat.zero_le _, Nat.zero_le _⟩ dX12_sell_94 ?_
      obtain ⟨T9, eT9, hR⟩ := lt_e hR
      refine iasT (n := 214) rfl (by decide) X w rfl (by decide) dX12_sell_97 (fun H locs w => ?_)
      rw [← eT9] at w
      refine lv_iload_n hx hb dX12_sell_98 rfl (lv_at hl 1 rfl) ?_
      refine lv_istore_n (lv' := [(2, .int x1), (0, .ref (ad 52)), (1, .int x1)]) hx hb dX12_sell_99 rfl hl (by decide) rfl (fun ls hl => ?_)
      exact L100 N x1 T9 hR _ _ _ w (lv_sub hl [1, 0] rfl)
    · rw [if_neg c4] at hR
      refine lv_iconst (v := -1) hx hb dX12_sell_66 (by decide) ?_
      rw [hQ]
      exact rt_i X hr hlk w hsz rfl rfl (lf2 hR).1 (lf2 hR).2 dX12_sell_67
  have hl : lv_has ls 3 [(0, .ref (ad 52)), (1, .int p1)] := hl
  unfold fX12_sell at hR
  refine lv_aload_n hx hb dX12_sell_0 rfl (lv_at hl 0 rfl) ?_
  refine lv_aload_n hx hb dX12_sell_1 rfl (lv_at hl 0 rfl) ?_
  refine lv_iload_n hx hb dX12_sell_2 rfl (lv_at hl 1 rfl) ?_
  obtain ⟨r2, h1, hR⟩ := bd_e hR
  refine cVi (k := 52) (As := [.int p1]) (rest := [.ref (ad 52)]) X hl.1 w okX12_isEnd obX12 rfl lmX12_306 (kX12_isEnd h1) ⟨Nat.le_of_ble_eq_true rfl, Nat.le_of_ble_eq_true rfl⟩ ⟨rfl, rfl⟩ ⟨Nat.zero_le _, Nat.zero_le _⟩ rfl rfl (Nat.le_of_ble_eq_true rfl) dX12_sell_3 (fun H locs zr2 w => ?_)
  refine lv_if_ne (tgt := 13) hx hb dX12_sell_6 (by decide) (fun c3 => ?_) (fun c3 => ?_)
  · rw [if_neg c3] at hR
    refine lv_aload_n hx hb dX12_sell_13 rfl (lv_at hl 0 rfl) ?_
    refine gX12_now X w lfX12_52 dX12_sell_14 ?_
    refine lv_bipush (v := 21) hx hb dX12_sell_17 (by decide) ?_
    refine lv_iload_n hx hb dX12_sell_19 rfl (lv_at hl 1 rfl) ?_
    refine lv_iadd hx hb dX12_sell_20 ?_
    obtain ⟨g4, hR⟩ := ck_e hR
    refine ialT (n := 214) rfl (by decide) X w rfl g4 dX12_sell_21 ?_
    refine lv_iconst (v := -1) hx hb dX12_sell_22 (by decide) ?_
    refine lv_icmp_eq (tgt := 30) hx hb dX12_sell_23 (by decide) (fun c5 => ?_) (fun c5 => ?_)
    · rw [if_pos c5] at hR
      refine lv_aload_n hx hb dX12_sell_30 rfl (lv_at hl 0 rfl) ?_
      refine lv_iload_n hx hb dX12_sell_31 rfl (lv_at hl 1 rfl) ?_
      obtain ⟨r7, h6, hR⟩ := bd_e hR
      refine cVi (k := 52) (As := [.int p1]) (rest := [.ref (ad 52)]) X hl.1 w okX12_isSold obX12 rfl lmX12_267 (kX12_isSold h6) ⟨Nat.le_of_ble_eq_true rfl, Nat.le_of_ble_eq_true rfl⟩ ⟨rfl, rfl⟩ ⟨Nat.zero_le _, Nat.zero_le _⟩ rfl rfl (Nat.le_of_ble_eq_true rfl) dX12_sell_32 (fun H locs zr7 w => ?_)
      refine lv_if_eq (tgt := 42) hx hb dX12_sell_35 (by decide) (fun c8 => ?_) (fun c8 => ?_)
      · rw [if_pos c8] at hR
        refine lv_aload_n hx hb dX12_sell_42 rfl (lv_at hl 0 rfl) ?_
        refine gX12_now X w lfX12_52 dX12_sell_43 ?_
        refine lv_bipush (v := 14) hx hb dX12_sell_46 (by decide) ?_
        refine lv_iload_n hx hb dX12_sell_48 rfl (lv_at hl 1 rfl) ?_
        refine lv_iadd hx hb dX12_sell_49 ?_
        obtain ⟨g9, hR⟩ := ck_e hR
        refine ialT (n := 214) rfl (by decide) X w rfl g9 dX12_sell_50 ?_
        refine lv_iconst (v := -1) hx hb dX12_sell_51 (by decide) ?_
        refine lv_icmp_ne (tgt := 59) hx hb dX12_sell_52 (by decide) (fun c10 => ?_) (fun c10 => ?_)
        · rw [if_neg c10] at hR
          refine lv_iconst (v := -1) hx hb dX12_sell_59 (by decide) ?_
          exact J60 p1 (-1) T hR _ _ _ w (lv_sub hl [0, 1] rfl)
        · rw [if_pos c10] at hR
          refine lv_iconst (v := 3) hx hb dX12_sell_55 (by decide) ?_
          refine lv_goto (tgt := 60) hx hb dX12_sell_56 (by decide) ?_
          exact J60 p1 3 T hR _ _ _ w (lv_sub hl [0, 1] rfl)
      · rw [if_neg c8] at hR
        refine lv_iconst (v := 2) hx hb dX12_sell_38 (by decide) ?_
        refine lv_goto (tgt := 60) hx hb dX12_sell_39 (by decide) ?_
        exact J60 p1 2 T hR _ _ _ w (lv_sub hl [0, 1] rfl)
    · rw [if_neg c5] at hR
      refine lv_iconst (v := 1) hx hb dX12_sell_26 (by decide) ?_
      refine lv_goto (tgt := 60) hx hb dX12_sell_27 (by decide) ?_
      exact J60 p1 1 T hR _ _ _ w (lv_sub hl [0, 1] rfl)
  · rw [if_pos c3] at hR
    refine lv_iconst (v := 0) hx hb dX12_sell_9 (by decide) ?_
    refine lv_goto (tgt := 60) hx hb dX12_sell_10 (by decide) ?_
    exact J60 p1 0 T hR _ _ _ w (lv_sub hl [0, 1] rfl)
/- LooseEndsModel.dye(II)I -/
def fX12_dye_j67 (N : Nat) (x1 : Int32) (x2 : Int32) (y0 : Int32) (T : SS) : Option (SS × Int32) := b2 (fX12_isRefused N T y0) fun T3 r2 =>
  if r2 = 0 then
  (bd (fX12_keep N T3) fun T6 =>
  ck (inb (0 + x1) 214) <|
  lt (ga T6 67 (0 + x1)) fun v8 =>
  ck (inb (0 + x1) 214) <|
  lt (pa T6 67 (0 + x1) x2) fun T10 =>
  lt (pa T10 67 31 ((ga T10 67 31) - 2)) fun T11 =>
  some (T11, v8))
  else
  (some (T3, (-1)))
def fX12_dye_j47 (N : Nat) (x1 : Int32) (x2 : Int32) (T : SS) : Option (SS × Int32) := fX12_dye_j67 N x1 x2 2 T
def fX12_dye (N : Nat) (T : SS) (p1 : Int32) (p2 : Int32) : Option (SS × Int32) := bd (fX12_isEnd N T p1) fun r2 =>
  if r2 = 0 then
  (fX12_dye_j67 N p1 p2 0 T)
  else
  (bd (fX12_in N p2 0 20) fun r5 =>
  if r5 = 0 then
  (fX12_dye_j67 N p1 p2 1 T)
  else
  (bd (fX12_isLoose N T p1) fun r8 =>
  if r8 = 0 then
  (fX12_dye_j47 N p1 p2 T)
  else
  (ck (inb (0 + p1) 214) <|
  if (ga T 67 (0 + p1)) = p2 then
  (fX12_dye_j47 N p1 p2 T)
  else
  (if 2 ≤ (ga T 67 31) then
  (fX12_dye_j67 N p1 p2 (-1) T)
  else
  (fX12_dye_j67 N p1 p2 3 T)))))
set_option maxHeartbeats 4000000 in
set_option maxRecDepth 100000 in
theorem kX12_dye {l : Launch} {D : va_G} {dA : Nat → ClassId} {ad : Nat → Nat} {t1 t2 : Nat} {N : Nat} {S T : SS} {o : Nat → Int64} {p1 : Int32} {p2 : Int32} {r : Int32} {T' : SS} (hR : fX12_dye N T p1 p2 = some (T', r)) : KI l D dA ad t1 t2 yX12_dye cX12_dye 4 .int { frames := 3, cells := 0, slots := 0, locals := 63 } [.ref (ad 52), .int p1, .int p2] S T o r S T' := by
  intro sz
  refine en_ (plainFor_of_name (by decide)) (Nat.le_of_ble_eq_true rfl) ?_
  intro p ev s m args below meth c QQ hQ hsz X hr hlk w ls hl
  have hx := X.1
  have hb := X.2.1
  have J67 : ∀ (x1 : Int32) (x2 : Int32) (y0 : Int32) (T : SS), fX12_dye_j67 N x1 x2 y0 T = some (T', r) → WAT p l ev ({ frames := 3, cells := 0, slots := 0, locals := 63 } : Room) s m args below meth c QQ 4 D dA ad t1 t2 S T o 67 [(0, .ref (ad 52)), (1, .int x1), (2, .int x2)] [.int y0, .ref (ad 52)] := by
    intro x1 x2 y0 T hR H locs ls w hl
    unfold fX12_dye_j67 at hR
    obtain ⟨T3, r2, h1, hR⟩ := b2_e hR
    refine cVi (k := 52) (As := [.int y0]) (rest := []) X hl.1 w okX12_isRefused obX12 rfl lmX12_312 (kX12_isRefused h1) ⟨Nat.le_of_ble_eq_true rfl, Nat.le_of_ble_eq_true rfl⟩ ⟨rfl, rfl⟩ ⟨Nat.zero_le _, Nat.zero_le _⟩ rfl rfl (Nat.le_of_ble_eq_true rfl) dX12_dye_67 (fun H locs zr2 w => ?_)
    refine lv_if_eq (tgt := 75) hx hb dX12_dye_70 (by decide) (fun c4 => ?_) (fun c4 => ?_)
    · rw [if_pos c4] at hR
      refine lv_aload_n hx hb dX12_dye_75 rfl (lv_at hl 0 rfl) ?_
      obtain ⟨T6, h5, hR⟩ := bd_e hR
      refine cVv (k := 52) (As := []) (rest := []) X hl.1 w okX12_keep obX12 rfl lmX12_315 (kX12_keep h5) ⟨Nat.le_of_ble_eq_true rfl, Nat.le_of_ble_eq_true rfl⟩ ⟨rfl, rfl⟩ ⟨Nat.zero_le _, Nat.zero_le _⟩ rfl rfl (Nat.le_of_ble_eq_true rfl) dX12_dye_76 (fun H locs w => ?_)
      refine lv_aload_n hx hb dX12_dye_79 rfl (lv_at hl 0 rfl) ?_
      refine gX12_now X w lfX12_52 dX12_dye_80 ?_
      refine lv_iconst (v := 0) hx hb dX12_dye_83 (by decide) ?_
      refine lv_iload_n hx hb dX12_dye_84 rfl (lv_at hl 1 rfl) ?_
      refine lv_iadd hx hb dX12_dye_85 ?_
      obtain ⟨g7, hR⟩ := ck_e hR
      refine ialT (n := 214) rfl (by decide) X w rfl g7 dX12_dye_86 ?_
      obtain ⟨v8, ev8, hR⟩ := lt_e hR
      refine nm_i ev8 ?_
      refine lv_istore_n (lv' := [(3, .int v8), (0, .ref (ad 52)), (1, .int x1), (2, .int x2)]) hx hb dX12_dye_87 rfl hl (by decide) rfl (fun ls hl => ?_)
      refine lv_aload_n hx hb dX12_dye_88 rfl (lv_at hl 1 rfl) ?_
      refine gX12_now X w lfX12_52 dX12_dye_89 ?_
      refine lv_iconst (v := 0) hx hb dX12_dye_92 (by decide) ?_
      refine lv_iload_n hx hb dX12_dye_93 rfl (lv_at hl 2 rfl) ?_
      refine lv_iadd hx hb dX12_dye_94 ?_
      refine lv_iload_n hx hb dX12_dye_95 rfl (lv_at hl 3 rfl) ?_
      obtain ⟨g9, hR⟩ := ck_e hR
      obtain ⟨T10, eT10, hR⟩ := lt_e hR
      refine iasT (n := 214) rfl (by decide) X w rfl g9 dX12_dye_96 (fun H locs w => ?_)
      rw [← eT10] at w
      refine lv_aload_n hx hb dX12_dye_97 rfl (lv_at hl 1 rfl) ?_
      refine gX12_now X w lfX12_52 dX12_dye_98 ?_
      refine lv_bipush (v := 31) hx hb dX12_dye_101 (by decide) ?_
      refine lv_dup2_11 hx hb dX12_dye_103 rfl rfl ?_
      refine ialT (n := 214) rfl (by decide) X w rfl (by decide) dX12_dye_104 ?_
      refine lv_iconst (v := 2) hx hb dX12_dye_105 (by decide) ?_
      refine lv_isub hx hb dX12_dye_106 ?_
      obtain ⟨T11, eT11, hR⟩ := lt_e hR
      refine iasT (n := 214) rfl (by decide) X w rfl (by decide) dX12_dye_107 (fun H locs w => ?_)
      rw [← eT11] at w
      refine lv_iload_n hx hb dX12_dye_108 rfl (lv_at hl 0 rfl) ?_
      rw [hQ]
      exact rt_i X hr hlk w hsz rfl rfl (lf2 hR).1 (lf2 hR).2 dX12_dye_109
    · rw [if_neg c4] at hR
      refine lv_iconst (v := -1) hx hb dX12_dye_73 (by decide) ?_
      rw [hQ]
      exact rt_i X hr hlk w hsz rfl rfl (lf2 hR).1 (lf2 hR).2 dX12_dye_74
  have J47 : ∀ (x1 : Int32) (x2 : Int32) (T : SS), fX12_dye_j47 N x1 x2 T = some (T', r) → WAT p l ev ({ frames := 3, cells := 0, slots := 0, locals := 63 } : Room) s m args below meth c QQ 4 D dA ad t1 t2 S T o 47 [(0, .ref (ad 52)), (1, .int x1), (2, .int x2)] [.ref (ad 52)] := by
    intro x1 x2 T hR H locs ls w hl
    unfold fX12_dye_j47 at hR
    refine lv_iconst (v := 2) hx hb dX12_dye_47 (by decide) ?_
    refine lv_goto (tgt := 67) hx hb dX12_dye_48 (by decide) ?_
    exact J67 x1 x2 2 T hR _ _ _ w (lv_sub hl [0, 1, 2] rfl)
  have hl : lv_has ls 4 [(0, .ref (ad 52)), (1, .int p1), (2, .int p2)] := hl
  unfold fX12_dye at hR
  refine lv_aload_n hx hb dX12_dye_0 rfl (lv_at hl 0 rfl) ?_
  refine lv_aload_n hx hb dX12_dye_1 rfl (lv_at hl 0 rfl) ?_
  refine lv_iload_n hx hb dX12_dye_2 rfl (lv_at hl 1 rfl) ?_
  obtain ⟨r2, h1, hR⟩ := bd_e hR
  refine cVi (k := 52) (As := [.int p1]) (rest := [.ref (ad 52)]) X hl.1 w okX12_isEnd obX12 rfl lmX12_306 (kX12_isEnd h1) ⟨Nat.le_of_ble_eq_true rfl, Nat.le_of_ble_eq_true rfl⟩ ⟨rfl, rfl⟩ ⟨Nat.zero_le _, Nat.zero_le _⟩ rfl rfl (Nat.le_of_ble_eq_true rfl) dX12_dye_3 (fun H locs zr2 w => ?_)
  refine lv_if_ne (tgt := 13) hx hb dX12_dye_6 (by decide) (fun c3 => ?_) (fun c3 => ?_)
  · rw [if_neg c3] at hR
    refine lv_iload_n hx hb dX12_dye_13 rfl (lv_at hl 2 rfl) ?_
    refine lv_iconst (v := 0) hx hb dX12_dye_14 (by decide) ?_
    refine lv_bipush (v := 20) hx hb dX12_dye_15 (by decide) ?_
    obtain ⟨r5, h4, hR⟩ := bd_e hR
    refine cSi (As := [.int p2, .int 0, .int 20]) (rest := [.ref (ad 52)]) X hl.1 w okX12_in lmX12_208 (kX12_in h4) ⟨Nat.le_of_ble_eq_true rfl, Nat.le_of_ble_eq_true rfl⟩ ⟨rfl, rfl⟩ ⟨Nat.zero_le _, Nat.zero_le _⟩ rfl rfl (Nat.le_of_ble_eq_true rfl) dX12_dye_17 (fun H locs zr5 w => ?_)
    refine lv_if_ne (tgt := 27) hx hb dX12_dye_20 (by decide) (fun c6 => ?_) (fun c6 => ?_)
    · rw [if_neg c6] at hR
      refine lv_aload_n hx hb dX12_dye_27 rfl (lv_at hl 0 rfl) ?_
      refine lv_iload_n hx hb dX12_dye_28 rfl (lv_at hl 1 rfl) ?_
      obtain ⟨r8, h7, hR⟩ := bd_e hR
      refine cVi (k := 52) (As := [.int p1]) (rest := [.ref (ad 52)]) X hl.1 w okX12_isLoose obX12 rfl lmX12_329 (kX12_isLoose h7) ⟨Nat.le_of_ble_eq_true rfl, Nat.le_of_ble_eq_true rfl⟩ ⟨rfl, rfl⟩ ⟨Nat.zero_le _, Nat.zero_le _⟩ rfl rfl (Nat.le_of_ble_eq_true rfl) dX12_dye_29 (fun H locs zr8 w => ?_)
      refine lv_if_eq (tgt := 47) hx hb dX12_dye_32 (by decide) (fun c9 => ?_) (fun c9 => ?_)
      · rw [if_pos c9] at hR
        exact J47 p1 p2 T hR _ _ _ w (lv_sub hl [0, 1, 2] rfl)
      · rw [if_neg c9] at hR
        refine lv_aload_n hx hb dX12_dye_35 rfl (lv_at hl 0 rfl) ?_
        refine gX12_now X w lfX12_52 dX12_dye_36 ?_
        refine lv_iconst (v := 0) hx hb dX12_dye_39 (by decide) ?_
        refine lv_iload_n hx hb dX12_dye_40 rfl (lv_at hl 1 rfl) ?_
        refine lv_iadd hx hb dX12_dye_41 ?_
        obtain ⟨g10, hR⟩ := ck_e hR
        refine ialT (n := 214) rfl (by decide) X w rfl g10 dX12_dye_42 ?_
        refine lv_iload_n hx hb dX12_dye_43 rfl (lv_at hl 2 rfl) ?_
        refine lv_icmp_ne (tgt := 51) hx hb dX12_dye_44 (by decide) (fun c11 => ?_) (fun c11 => ?_)
        · rw [if_neg c11] at hR
          refine lv_aload_n hx hb dX12_dye_51 rfl (lv_at hl 0 rfl) ?_
          refine gX12_now X w lfX12_52 dX12_dye_52 ?_
          refine lv_bipush (v := 31) hx hb dX12_dye_55 (by decide) ?_
          refine ialT (n := 214) rfl (by decide) X w rfl (by decide) dX12_dye_57 ?_
          refine lv_iconst (v := 2) hx hb dX12_dye_58 (by decide) ?_
          refine lv_icmp_ge (tgt := 66) hx hb dX12_dye_59 (by decide) (fun c12 => ?_) (fun c12 => ?_)
          · rw [if_pos c12] at hR
            refine lv_iconst (v := -1) hx hb dX12_dye_66 (by decide) ?_
            exact J67 p1 p2 (-1) T hR _ _ _ w (lv_sub hl [0, 1, 2] rfl)
          · rw [if_neg c12] at hR
            refine lv_iconst (v := 3) hx hb dX12_dye_62 (by decide) ?_
            refine lv_goto (tgt := 67) hx hb dX12_dye_63 (by decide) ?_
            exact J67 p1 p2 3 T hR _ _ _ w (lv_sub hl [0, 1, 2] rfl)
        · rw [if_pos c11] at hR
          exact J47 p1 p2 T hR _ _ _ w (lv_sub hl [0, 1, 2] rfl)
    · rw [if_pos c6] at hR
      refine lv_iconst (v := 1) hx hb dX12_dye_23 (by decide) ?_
      refine lv_goto (tgt := 67) hx hb dX12_dye_24 (by decide) ?_
      exact J67 p1 p2 1 T hR _ _ _ w (lv_sub hl [0, 1, 2] rfl)
  · rw [if_pos c3] at hR
    refine lv_iconst (v := 0) hx hb dX12_dye_9 (by decide) ?_
    refine lv_goto (tgt := 67) hx hb dX12_dye_10 (by decide) ?_
    exact J67 p1 p2 0 T hR _ _ _ w (lv_sub hl [0, 1, 2] rfl)
/- LooseEndsModel.give(I)I -/
def fX12_give_j42 (N : Nat) (x1 : Int32) (y0 : Int32) (T : SS) : Option (SS × Int32) := b2 (fX12_isRefused N T y0) fun T3 r2 =>
  if r2 = 0 then
  (bd (fX12_keep N T3) fun T6 =>
  lt (pa T6 67 31 ((ga T6 67 31) + x1)) fun T7 =>
  some (T7, ga T7 67 31))
  else
  (some (T3, (-1)))
def fX12_give_j37 (N : Nat) (x1 : Int32) (T : SS) : Option (SS × Int32) := fX12_give_j42 N x1 1 T
def fX12_give (N : Nat) (T : SS) (p1 : Int32) : Option (SS × Int32) := if (gi T 52 22) = 0 then
  (fX12_give_j42 N p1 0 T)
  else
  (bd (fX12_in N p1 1 50) fun r3 =>
  if r3 = 0 then
  (fX12_give_j37 N p1 T)
  else
  (if ((ga T 67 31) + p1) ≤ 9999 then
  (fX12_give_j42 N p1 (-1) T)
  else
  (fX12_give_j37 N p1 T)))
set_option maxHeartbeats 4000000 in
set_option maxRecDepth 100000 in
theorem kX12_give {l : Launch} {D : va_G} {dA : Nat → ClassId} {ad : Nat → Nat} {t1 t2 : Nat} {N : Nat} {S T : SS} {o : Nat → Int64} {p1 : Int32} {r : Int32} {T' : SS} (hR : fX12_give N T p1 = some (T', r)) : KI l D dA ad t1 t2 yX12_give cX12_give 2 .int { frames := 1, cells := 0, slots := 0, locals := 22 } [.ref (ad 52), .int p1] S T o r S T' := by
  intro sz
  refine en_ (plainFor_of_name (by decide)) (Nat.le_of_ble_eq_true rfl) ?_
  intro p ev s m args below meth c QQ hQ hsz X hr hlk w ls hl
  have hx := X.1
  have hb := X.2.1
  have J42 : ∀ (x1 : Int32) (y0 : Int32) (T : SS), fX12_give_j42 N x1 y0 T = some (T', r) → WAT p l ev ({ frames := 1, cells := 0, slots := 0, locals := 22 } : Room) s m args below meth c QQ 2 D dA ad t1 t2 S T o 42 [(0, .ref (ad 52)), (1, .int x1)] [.int y0, .ref (ad 52)] := by
    intro x1 y0 T hR H locs ls w hl
    unfold fX12_give_j42 at hR
    obtain ⟨T3, r2, h1, hR⟩ := b2_e hR
    refine cVi (k := 52) (As := [.int y0]) (rest := []) X hl.1 w okX12_isRefused obX12 rfl lmX12_312 (kX12_isRefused h1) ⟨Nat.le_of_ble_eq_true rfl, Nat.le_of_ble_eq_true rfl⟩ ⟨rfl, rfl⟩ ⟨Nat.zero_le _, Nat.zero_le _⟩ rfl rfl (Nat.le_of_ble_eq_true rfl) dX12_give_42 (fun H locs zr2 w => ?_)
    refine lv_if_eq (tgt := 50) hx hb dX12_give_45 (by decide) (fun c4 => ?_) (fun c4 => ?_)
    · rw [if_pos c4] at hR
      refine lv_aload_n hx hb dX12_give_50 rfl (lv_at hl 0 rfl) ?_
      obtain ⟨T6, h5, hR⟩ := bd_e hR
      refine cVv (k := 52) (As := []) (rest := []) X hl.1 w okX12_keep obX12 rfl lmX12_315 (kX12_keep h5) ⟨Nat.le_of_ble_eq_true rfl, Nat.le_of_ble_eq_true rfl⟩ ⟨rfl, rfl⟩ ⟨Nat.zero_le _, Nat.zero_le _⟩ rfl rfl (Nat.le_of_ble_eq_true rfl) dX12_give_51 (fun H locs w => ?_)
      refine lv_aload_n hx hb dX12_give_54 rfl (lv_at hl 0 rfl) ?_
      refine gX12_now X w lfX12_52 dX12_give_55 ?_
      refine lv_bipush (v := 31) hx hb dX12_give_58 (by decide) ?_
      refine lv_dup2_11 hx hb dX12_give_60 rfl rfl ?_
      refine ialT (n := 214) rfl (by decide) X w rfl (by decide) dX12_give_61 ?_
      refine lv_iload_n hx hb dX12_give_62 rfl (lv_at hl 1 rfl) ?_
      refine lv_iadd hx hb dX12_give_63 ?_
      obtain ⟨T7, eT7, hR⟩ := lt_e hR
      refine iasT (n := 214) rfl (by decide) X w rfl (by decide) dX12_give_64 (fun H locs w => ?_)
      rw [← eT7] at w
      refine lv_aload_n hx hb dX12_give_65 rfl (lv_at hl 0 rfl) ?_
      refine gX12_now X w lfX12_52 dX12_give_66 ?_
      refine lv_bipush (v := 31) hx hb dX12_give_69 (by decide) ?_
      refine ialT (n := 214) rfl (by decide) X w rfl (by decide) dX12_give_71 ?_
      rw [hQ]
      exact rt_i X hr hlk w hsz rfl rfl (lf2 hR).1 (lf2 hR).2 dX12_give_72
    · rw [if_neg c4] at hR
      refine lv_iconst (v := -1) hx hb dX12_give_48 (by decide) ?_
      rw [hQ]
      exact rt_i X hr hlk w hsz rfl rfl (lf2 hR).1 (lf2 hR).2 dX12_give_49
  have J37 : ∀ (x1 : Int32) (T : SS), fX12_give_j37 N x1 T = some (T', r) → WAT p l ev ({ frames := 1, cells := 0, slots := 0, locals := 22 } : Room) s m args below meth c QQ 2 D dA ad t1 t2 S T o 37 [(0, .ref (ad 52)), (1, .int x1)] [.ref (ad 52)] := by
    intro x1 T hR H locs ls w hl
    unfold fX12_give_j37 at hR
    refine lv_iconst (v := 1) hx hb dX12_give_37 (by decide) ?_
    refine lv_goto (tgt := 42) hx hb dX12_give_38 (by decide) ?_
    exact J42 x1 1 T hR _ _ _ w (lv_sub hl [0, 1] rfl)
  have hl : lv_has ls 2 [(0, .ref (ad 52)), (1, .int p1)] := hl
  unfold fX12_give at hR
  refine lv_aload_n hx hb dX12_give_0 rfl (lv_at hl 0 rfl) ?_
  refine lv_aload_n hx hb dX12_give_1 rfl (lv_at hl 0 rfl) ?_
  refine gX12_ends X w lfX12_245 dX12_give_2 ?_
  refine lv_if_ne (tgt := 12) hx hb dX12_give_5 (by decide) (fun c1 => ?_) (fun c1 => ?_)
  · rw [if_neg c1] at hR
    refine lv_iload_n hx hb dX12_give_12 rfl (lv_at hl 1 rfl) ?_
    refine lv_iconst (v := 1) hx hb dX12_give_13 (by decide) ?_
    refine lv_bipush (v := 50) hx hb dX12_give_14 (by decide) ?_
    obtain ⟨r3, h2, hR⟩ := bd_e hR
    refine cSi (As := [.int p1, .int 1, .int 50]) (rest := [.ref (ad 52)]) X hl.1 w okX12_in lmX12_208 (kX12_in h2) ⟨Nat.le_of_ble_eq_true rfl, Nat.le_of_ble_eq_true rfl⟩ ⟨rfl, rfl⟩ ⟨Nat.zero_le _, Nat.zero_le _⟩ rfl rfl (Nat.le_of_ble_eq_true rfl) dX12_give_16 (fun H locs zr3 w => ?_)
    refine lv_if_eq (tgt := 37) hx hb dX12_give_19 (by decide) (fun c4 => ?_) (fun c4 => ?_)
    · rw [if_pos c4] at hR
      exact J37 p1 T hR _ _ _ w (lv_sub hl [0, 1] rfl)
    · rw [if_neg c4] at hR
      refine lv_aload_n hx hb dX12_give_22 rfl (lv_at hl 0 rfl) ?_
      refine gX12_now X w lfX12_52 dX12_give_23 ?_
      refine lv_bipush (v := 31) hx hb dX12_give_26 (by decide) ?_
      refine ialT (n := 214) rfl (by decide) X w rfl (by decide) dX12_give_28 ?_
      refine lv_iload_n hx hb dX12_give_29 rfl (lv_at hl 1 rfl) ?_
      refine lv_iadd hx hb dX12_give_30 ?_
      refine lv_sipush (v := 9999) hx hb dX12_give_31 (by decide) ?_
      refine lv_icmp_le (tgt := 41) hx hb dX12_give_34 (by decide) (fun c5 => ?_) (fun c5 => ?_)
      · rw [if_pos c5] at hR
        refine lv_iconst (v := -1) hx hb dX12_give_41 (by decide) ?_
        exact J42 p1 (-1) T hR _ _ _ w (lv_sub hl [0, 1] rfl)
      · rw [if_neg c5] at hR
        exact J37 p1 T hR _ _ _ w (lv_sub hl [0, 1] rfl)
  · rw [if_pos c1] at hR
    refine lv_iconst (v := 0) hx hb dX12_give_8 (by decide) ?_
    refine lv_goto (tgt := 42) hx hb dX12_give_9 (by decide) ?_
    exact J42 p1 0 T hR _ _ _ w (lv_sub hl [0, 1] rfl)
/- LooseEndsModel.passDay()V -/
def fX12_passDay_j58 (N : Nat) (T : SS) : Option (SS) := lt (34 + (3 * (ga T 67 33))) fun v1 =>
  ck (inb v1 214) <|
  lt (pa T 67 v1 (ga T 67 29)) fun T3 =>
  ck (inb (v1 + 1) 214) <|
  lt (pa T3 67 (v1 + 1) (ga T3 67 30)) fun T5 =>
  ck (inb (v1 + 2) 214) <|
  lt (pa T5 67 (v1 + 2) (ga T5 67 31)) fun T7 =>
  lt (pa T7 67 33 ((ga T7 67 33) + 1)) fun T8 =>
  lt (pa T8 67 29 0) fun T9 =>
  lt (pa T9 67 30 0) fun T10 =>
  lt (pa T10 67 31 (mn 9999 ((ga T10 67 31) + 1))) fun T11 =>
  lt (pa T11 67 32 ((ga T11 67 32) + 1)) fun T12 =>
  some T12
def fX12_passDay_l14 (N : Nat) : Nat → Int32 → SS → Option (SS)
  | 0, _, _ => none
  | n + 1, x1, T => if 180 ≤ x1 then
  (lt (pa T 67 33 ((ga T 67 33) - 1)) fun T2 =>
  fX12_passDay_j58 N T2)
  else
  (ck (inb (34 + x1) 214) <|
  ck (inb ((34 + x1) - 3) 214) <|
  lt (pa T 67 ((34 + x1) - 3) (ga T 67 (34 + x1))) fun T5 =>
  lt (x1 + 1) fun v6 =>
  fX12_passDay_l14 N n v6 T5)
def fX12_passDay (N : Nat) (T : SS) : Option (SS) := if (ga T 67 33) = 60 then
  (fX12_passDay_l14 N N 3 T)
  else
  (fX12_passDay_j58 N T)
set_option maxHeartbeats 4000000 in
set_option maxRecDepth 100000 in
theorem kX12_passDay {l : Launch} {D : va_G} {dA : Nat → ClassId} {ad : Nat → Nat} {t1 t2 : Nat} {N : Nat} {S T : SS} {o : Nat → Int64} {T' : SS} (hR : fX12_passDay N T = some T') : KV l D dA ad t1 t2 yX12_passDay cX12_passDay 2 { frames := 1, cells := 0, slots := 0, locals := 15 } [.ref (ad 52)] S T o S T' := by
  intro sz
  refine en_ (plainFor_of_name (by decide)) (Nat.le_of_ble_eq_true rfl) ?_
  intro p ev s m args below meth c QQ hQ hsz X hr hlk w ls hl
  have hx := X.1
  have hb := X.2.1
  have J58 : ∀ (T : SS), fX12_passDay_j58 N T = some T' → WAT p l ev ({ frames := 1, cells := 0, slots := 0, locals := 15 } : Room) s m args below meth c QQ 2 D dA ad t1 t2 S T o 58 [(0, .ref (ad 52))] [] := by
    intro T hR H locs ls w hl
    unfold fX12_passDay_j58 at hR
    refine lv_bipush (v := 34) hx hb dX12_passDay_58 (by decide) ?_
    refine lv_iconst (v := 3) hx hb dX12_passDay_60 (by decide) ?_
    refine lv_aload_n hx hb dX12_passDay_61 rfl (lv_at hl 0 rfl) ?_
    refine gX12_now X w lfX12_52 dX12_passDay_62 ?_
    refine lv_bipush (v := 33) hx hb dX12_passDay_65 (by decide) ?_
    refine ialT (n := 214) rfl (by decide) X w rfl (by decide) dX12_passDay_67 ?_
    refine lv_imul hx hb dX12_passDay_68 ?_
    refine lv_iadd hx hb dX12_passDay_69 ?_
    obtain ⟨v1, ev1, hR⟩ := lt_e hR
    refine nm_i ev1 ?_
    refine lv_istore_n (lv' := [(1, .int v1), (0, .ref (ad 52))]) hx hb dX12_passDay_70 rfl hl (by decide) rfl (fun ls hl => ?_)
    refine lv_aload_n hx hb dX12_passDay_71 rfl (lv_at hl 1 rfl) ?_
    refine gX12_now X w lfX12_52 dX12_passDay_72 ?_
    refine lv_iload_n hx hb dX12_passDay_75 rfl (lv_at hl 0 rfl) ?_
    refine lv_aload_n hx hb dX12_passDay_76 rfl (lv_at hl 1 rfl) ?_
    refine gX12_now X w lfX12_52 dX12_passDay_77 ?_
    refine lv_bipush (v := 29) hx hb dX12_passDay_80 (by decide) ?_
    refine ialT (n := 214) rfl (by decide) X w rfl (by decide) dX12_passDay_82 ?_
    obtain ⟨g2, hR⟩ := ck_e hR
    obtain ⟨T3, eT3, hR⟩ := lt_e hR
    refine iasT (n := 214) rfl (by decide) X w rfl g2 dX12_passDay_83 (fun H locs w => ?_)
    rw [← eT3] at w
    refine lv_aload_n hx hb dX12_passDay_84 rfl (lv_at hl 1 rfl) ?_
    refine gX12_now X w lfX12_52 dX12_passDay_85 ?_
    refine lv_iload_n hx hb dX12_passDay_88 rfl (lv_at hl 0 rfl) ?_
    refine lv_iconst (v := 1) hx hb dX12_passDay_89 (by decide) ?_
    refine lv_iadd hx hb dX12_passDay_90 ?_
    refine lv_aload_n hx hb dX12_passDay_91 rfl (lv_at hl 1 rfl) ?_
    refine gX12_now X w lfX12_52 dX12_passDay_92 ?_
    refine lv_bipush (v := 30) hx hb dX12_passDay_95 (by decide) ?_
    refine ialT (n := 214) rfl (by decide) X w rfl (by decide) dX12_passDay_97 ?_
    obtain ⟨g4, hR⟩ := ck_e hR
    obtain ⟨T5, eT5, hR⟩ := lt_e hR
    refine iasT (n := 214) rfl (by decide) X w rfl g4 dX12_passDay_98 (fun H locs w => ?_)
    rw [← eT5] at w
    refine lv_aload_n hx hb dX12_passDay_99 rfl (lv_at hl 1 rfl) ?_
    refine gX12_now X w lfX12_52 dX12_passDay_100 ?_
    refine lv_iload_n hx hb dX12_passDay_103 rfl (lv_at hl 0 rfl) ?_
    refine lv_iconst (v := 2) hx hb dX12_passDay_104 (by decide) ?_
    refine lv_iadd hx hb dX12_passDay_105 ?_
    refine lv_aload_n hx hb dX12_passDay_106 rfl (lv_at hl 1 rfl) ?_
    refine gX12_now X w lfX12_52 dX12_passDay_107 ?_
    refine lv_bipush (v := 31) hx hb dX12_passDay_110 (by decide) ?_
    refine ialT (n := 214) rfl (by decide) X w rfl (by decide) dX12_passDay_112 ?_
    obtain ⟨g6, hR⟩ := ck_e hR
    obtain ⟨T7, eT7, hR⟩ := lt_e hR
    refine iasT (n := 214) rfl (by decide) X w rfl g6 dX12_passDay_113 (fun H locs w => ?_)
    rw [← eT7] at w
    refine lv_aload_n hx hb dX12_passDay_114 rfl (lv_at hl 1 rfl) ?_
    refine gX12_now X w lfX12_52 dX12_passDay_115 ?_
    refine lv_bipush (v := 33) hx hb dX12_passDay_118 (by decide) ?_
    refine lv_dup2_11 hx hb dX12_passDay_120 rfl rfl ?_
    refine ialT (n := 214) rfl (by decide) X w rfl (by decide) dX12_passDay_121 ?_
    refine lv_iconst (v := 1) hx hb dX12_passDay_122 (by decide) ?_
    refine lv_iadd hx hb dX12_passDay_123 ?_
    obtain ⟨T8, eT8, hR⟩ := lt_e hR
    refine iasT (n := 214) rfl (by decide) X w rfl (by decide) dX12_passDay_124 (fun H locs w => ?_)
    rw [← eT8] at w
    refine lv_aload_n hx hb dX12_passDay_125 rfl (lv_at hl 1 rfl) ?_
    refine gX12_now X w lfX12_52 dX12_passDay_126 ?_
    refine lv_bipush (v := 29) hx hb dX12_passDay_129 (by decide) ?_
    refine lv_iconst (v := 0) hx hb dX12_passDay_131 (by decide) ?_
    obtain ⟨T9, eT9, hR⟩ := lt_e hR
    refine iasT (n := 214) rfl (by decide) X w rfl (by decide) dX12_passDay_132 (fun H locs w => ?_)
    rw [← eT9] at w
    refine lv_aload_n hx hb dX12_passDay_133 rfl (lv_at hl 1 rfl) ?_
    refine gX12_now X w lfX12_52 dX12_passDay_134 ?_
    refine lv_bipush (v := 30) hx hb dX12_passDay_137 (by decide) ?_
    refine lv_iconst (v := 0) hx hb dX12_passDay_139 (by decide) ?_
    obtain ⟨T10, eT10, hR⟩ := lt_e hR
    refine iasT (n := 214) rfl (by decide) X w rfl (by decide) dX12_passDay_140 (fun H locs w => ?_)
    rw [← eT10] at w
    refine lv_aload_n hx hb dX12_passDay_141 rfl (lv_at hl 1 rfl) ?_
    refine gX12_now X w lfX12_52 dX12_passDay_142 ?_
    refine lv_bipush (v := 31) hx hb dX12_passDay_145 (by decide) ?_
    refine lv_sipush (v := 9999) hx hb dX12_passDay_147 (by decide) ?_
    refine lv_aload_n hx hb dX12_passDay_150 rfl (lv_at hl 1 rfl) ?_
    refine gX12_now X w lfX12_52 dX12_passDay_151 ?_
    refine lv_bipush (v := 31) hx hb dX12_passDay_154 (by decide) ?_
    refine ialT (n := 214) rfl (by decide) X w rfl (by decide) dX12_passDay_156 ?_
    refine lv_iconst (v := 1) hx hb dX12_passDay_157 (by decide) ?_
    refine lv_iadd hx hb dX12_passDay_158 ?_
    refine mnI X hl.1 lmX12_327 ⟨Nat.le_of_ble_eq_true rfl, Nat.le_of_ble_eq_true rfl⟩ ⟨Nat.zero_le _, Nat.zero_le _⟩ dX12_passDay_159 ?_
    obtain ⟨T11, eT11, hR⟩ := lt_e hR
    refine iasT (n := 214) rfl (by decide) X w rfl (by decide) dX12_passDay_162 (fun H locs w => ?_)
    rw [← eT11] at w
    refine lv_aload_n hx hb dX12_passDay_163 rfl (lv_at hl 1 rfl) ?_
    refine gX12_now X w lfX12_52 dX12_passDay_164 ?_
    refine lv_bipush (v := 32) hx hb dX12_passDay_167 (by decide) ?_
    refine lv_dup2_11 hx hb dX12_passDay_169 rfl rfl ?_
    refine ialT (n := 214) rfl (by decide) X w rfl (by decide) dX12_passDay_170 ?_
    refine lv_iconst (v := 1) hx hb dX12_passDay_171 (by decide) ?_
    refine lv_iadd hx hb dX12_passDay_172 ?_
    obtain ⟨T12, eT12, hR⟩ := lt_e hR
    refine iasT (n := 214) rfl (by decide) X w rfl (by decide) dX12_passDay_173 (fun H locs w => ?_)
    rw [← eT12] at w
    rw [hQ]
    exact rt_v X hr hlk w hsz rfl (lf1 hR) dX12_passDay_174
  have L14 : ∀ (n : Nat), ∀ (x1 : Int32) (T : SS), fX12_passDay_l14 N n x1 T = some T' → WAT p l ev ({ frames := 1, cells := 0, slots := 0, locals := 15 } : Room) s m args below meth c QQ 2 D dA ad t1 t2 S T o 14 [(0, .ref (ad 52)), (1, .int x1)] [] := by
    intro n
    induction n with
    | zero =>
      intro x1 T hR
      exact nomatch hR
    | succ n ih =>
      intro x1 T hR H locs ls w hl
      rw [fX12_passDay_l14] at hR
      refine lv_iload_n hx hb dX12_passDay_14 rfl (lv_at hl 1 rfl) ?_
      refine lv_sipush (v := 180) hx hb dX12_passDay_15 (by decide) ?_
      refine lv_icmp_ge (tgt := 47) hx hb dX12_passDay_18 (by decide) (fun c1 => ?_) (fun c1 => ?_)
      · rw [if_pos c1] at hR
        refine lv_aload_n hx hb dX12_passDay_47 rfl (lv_at hl 0 rfl) ?_
        refine gX12_now X w lfX12_52 dX12_passDay_48 ?_
        refine lv_bipush (v := 33) hx hb dX12_passDay_51 (by decide) ?_
        refine lv_dup2_11 hx hb dX12_passDay_53 rfl rfl ?_
        refine ialT (n := 214) rfl (by decide) X w rfl (by decide) dX12_passDay_54 ?_
        refine lv_iconst (v := 1) hx hb dX12_passDay_55 (by decide) ?_
        refine lv_isub hx hb dX12_passDay_56 ?_
        obtain ⟨T2, eT2, hR⟩ := lt_e hR
        refine iasT (n := 214) rfl (by decide) X w rfl (by decide) dX12_passDay_57 (fun H locs w => ?_)
        rw [← eT2] at w
        exact J58 T2 hR _ _ _ w (lv_sub hl [0] rfl)
      · rw [if_neg c1] at hR
        refine lv_aload_n hx hb dX12_passDay_21 rfl (lv_at hl 0 rfl) ?_
        refine gX12_now X w lfX12_52 dX12_passDay_22 ?_
        refine lv_bipush (v := 34) hx hb dX12_passDay_25 (by decide) ?_
        refine lv_iload_n hx hb dX12_passDay_27 rfl (lv_at hl 1 rfl) ?_
        refine lv_iadd hx hb dX12_passDay_28 ?_
        refine lv_iconst (v := 3) hx hb dX12_passDay_29 (by decide) ?_
        refine lv_isub hx hb dX12_passDay_30 ?_
        refine lv_aload_n hx hb dX12_passDay_31 rfl (lv_at hl 0 rfl) ?_
        refine gX12_now X w lfX12_52 dX12_passDay_32 ?_
        refine lv_bipush (v := 34) hx hb dX12_passDay_35 (by decide) ?_
        refine lv_iload_n hx hb dX12_passDay_37 rfl (lv_at hl 1 rfl) ?_
        refine lv_iadd hx hb dX12_passDay_38 ?_
        obtain ⟨g3, hR⟩ := ck_e hR
        refine ialT (n := 214) rfl (by decide) X w rfl g3 dX12_passDay_39 ?_
        obtain ⟨g4, hR⟩ := ck_e hR
        obtain ⟨T5, eT5, hR⟩ := lt_e hR
        refine iasT (n := 214) rfl (by decide) X w rfl g4 dX12_passDay_40 (fun H locs w => ?_)
        rw [← eT5] at w
        obtain ⟨v6, ev6, hR⟩ := lt_e hR
        refine lv_iinc (v := v6) (lv' := [(1, .int v6), (0, .ref (ad 52))]) hx hb dX12_passDay_41 hl (k := 1) rfl (by rw [ev6]; rfl) (by decide) rfl (fun ls hl => ?_)
        refine lv_goto (tgt := 14) hx hb dX12_passDay_44 (by decide) ?_
        exact ih v6 T5 hR _ _ _ w (lv_sub hl [1, 0] rfl)
  have hl : lv_has ls 2 [(0, .ref (ad 52))] := hl
  unfold fX12_passDay at hR
  refine lv_aload_n hx hb dX12_passDay_0 rfl (lv_at hl 0 rfl) ?_
  refine gX12_now X w lfX12_52 dX12_passDay_1 ?_
  refine lv_bipush (v := 33) hx hb dX12_passDay_4 (by decide) ?_
  refine ialT (n := 214) rfl (by decide) X w rfl (by decide) dX12_passDay_6 ?_
  refine lv_bipush (v := 60) hx hb dX12_passDay_7 (by decide) ?_
  refine lv_icmp_ne (tgt := 58) hx hb dX12_passDay_9 (by decide) (fun c1 => ?_) (fun c1 => ?_)
  · rw [if_neg c1] at hR
    exact J58 T hR _ _ _ w (lv_sub hl [0] rfl)
  · rw [if_pos c1] at hR
    refine lv_iconst (v := 3) hx hb dX12_passDay_12 (by decide) ?_
    refine lv_istore_n (lv' := [(1, .int 3), (0, .ref (ad 52))]) hx hb dX12_passDay_13 rfl hl (by decide) rfl (fun ls hl => ?_)
    exact L14 N 3 T hR _ _ _ w (lv_sub hl [1, 0] rfl)
/- LooseEndsModel.areDays(I)Z -/
def fX12_areDays (N : Nat) (T : SS) (p1 : Int32) : Option (Int32) := bd (fX12_in N p1 1 60) fun r2 =>
  if r2 = 0 then
  (some 0)
  else
  (if 999 < ((ga T 67 32) + p1) then
  (some 0)
  else
  (some 1))
set_option maxHeartbeats 4000000 in
set_option maxRecDepth 100000 in
theorem kX12_areDays {l : Launch} {D : va_G} {dA : Nat → ClassId} {ad : Nat → Nat} {t1 t2 : Nat} {N : Nat} {S T : SS} {o : Nat → Int64} {p1 : Int32} {r : Int32} (hR : fX12_areDays N T p1 = some r) : KI l D dA ad t1 t2 yX12_areDays cX12_areDays 2 .boolean { frames := 1, cells := 0, slots := 0, locals := 22 } [.ref (ad 52), .int p1] S T o r S T := by
  intro sz
  refine en_ (plainFor_of_name (by decide)) (Nat.le_of_ble_eq_true rfl) ?_
  intro p ev s m args below meth c QQ hQ hsz X hr hlk w ls hl
  have hx := X.1
  have hb := X.2.1
  have hl : lv_has ls 2 [(0, .ref (ad 52)), (1, .int p1)] := hl
  unfold fX12_areDays at hR
  refine lv_iload_n hx hb dX12_areDays_0 rfl (lv_at hl 1 rfl) ?_
  refine lv_iconst (v := 1) hx hb dX12_areDays_1 (by decide) ?_
  refine lv_bipush (v := 60) hx hb dX12_areDays_2 (by decide) ?_
  obtain ⟨r2, h1, hR⟩ := bd_e hR
  refine cSi (As := [.int p1, .int 1, .int 60]) (rest := []) X hl.1 w okX12_in lmX12_208 (kX12_in h1) ⟨Nat.le_of_ble_eq_true rfl, Nat.le_of_ble_eq_true rfl⟩ ⟨rfl, rfl⟩ ⟨Nat.zero_le _, Nat.zero_le _⟩ rfl rfl (Nat.le_of_ble_eq_true rfl) dX12_areDays_4 (fun H locs zr2 w => ?_)
  refine lv_if_eq (tgt := 29) hx hb dX12_areDays_7 (by decide) (fun c3 => ?_) (fun c3 => ?_)
  · rw [if_pos c3] at hR
    refine lv_iconst (v := 0) hx hb dX12_areDays_29 (by decide) ?_
    rw [hQ]
    exact rt_i X hr hlk w hsz rfl rfl rfl (lf1 hR) dX12_areDays_30
  · rw [if_neg c3] at hR
    refine lv_aload_n hx hb dX12_areDays_10 rfl (lv_at hl 0 rfl) ?_
    refine gX12_now X w lfX12_52 dX12_areDays_11 ?_
    refine lv_bipush (v := 32) hx hb dX12_areDays_14 (by decide) ?_
    refine ialT (n := 214) rfl (by decide) X w rfl (by decide) dX12_areDays_16 ?_
    refine lv_iload_n hx hb dX12_areDays_17 rfl (lv_at hl 1 rfl) ?_
    refine lv_iadd hx hb dX12_areDays_18 ?_
    refine lv_sipush (v := 999) hx hb dX12_areDays_19 (by decide) ?_
    refine lv_icmp_gt (tgt := 29) hx hb dX12_areDays_22 (by decide) (fun c4 => ?_) (fun c4 => ?_)
    · rw [if_pos c4] at hR
      refine lv_iconst (v := 0) hx hb dX12_areDays_29 (by decide) ?_
      rw [hQ]
      exact rt_i X hr hlk w hsz rfl rfl rfl (lf1 hR) dX12_areDays_30
    · rw [if_neg c4] at hR
      refine lv_iconst (v := 1) hx hb dX12_areDays_25 (by decide) ?_
      refine lv_goto (tgt := 30) hx hb dX12_areDays_26 (by decide) ?_
      rw [hQ]
      exact rt_i X hr hlk w hsz rfl rfl rfl (lf1 hR) dX12_areDays_30
/- LooseEndsModel.days(I)I -/
def fX12_days_l49 (N : Nat) : Nat → Int32 → Int32 → SS → Option (SS × Int32)
  | 0, _, _, _ => none
  | n + 1, x1, x2, T => if x1 ≤ x2 then
  (some (T, ga T 67 32))
  else
  (bd (fX12_keep N T) fun T3 =>
  bd (fX12_passDay N T3) fun T5 =>
  lt (x2 + 1) fun v6 =>
  fX12_days_l49 N n x1 v6 T5)
def fX12_days_j39 (N : Nat) (x1 : Int32) (y0 : Int32) (T : SS) : Option (SS × Int32) := b2 (fX12_isRefused N T y0) fun T3 r2 =>
  if r2 = 0 then
  (fX12_days_l49 N N x1 0 T3)
  else
  (some (T3, (-1)))
def fX12_days (N : Nat) (T : SS) (p1 : Int32) : Option (SS × Int32) := if (gi T 52 22) = 0 then
  (fX12_days_j39 N p1 0 T)
  else
  (bd (fX12_in N p1 1 60) fun r3 =>
  if r3 = 0 then
  (fX12_days_j39 N p1 1 T)
  else
  (bd (fX12_areDays N T p1) fun r6 =>
  if r6 = 0 then
  (fX12_days_j39 N p1 4 T)
  else
  (fX12_days_j39 N p1 (-1) T)))
set_option maxHeartbeats 4000000 in
set_option maxRecDepth 100000 in
theorem kX12_days {l : Launch} {D : va_G} {dA : Nat → ClassId} {ad : Nat → Nat} {t1 t2 : Nat} {N : Nat} {S T : SS} {o : Nat → Int64} {p1 : Int32} {r : Int32} {T' : SS} (hR : fX12_days N T p1 = some (T', r)) : KI l D dA ad t1 t2 yX12_days cX12_days 3 .int { frames := 2, cells := 0, slots := 0, locals := 43 } [.ref (ad 52), .int p1] S T o r S T' := by
  intro sz
  refine en_ (plainFor_of_name (by decide)) (Nat.le_of_ble_eq_true rfl) ?_
  intro p ev s m args below meth c QQ hQ hsz X hr hlk w ls hl
  have hx := X.1
  have hb := X.2.1
  have L49 : ∀ (n : Nat), ∀ (x1 : Int32) (x2 : Int32) (T : SS), fX12_days_l49 N n x1 x2 T = some (T', r) → WAT p l ev ({ frames := 2, cells := 0, slots := 0, locals := 43 } : Room) s m args below meth c QQ 3 D dA ad t1 t2 S T o 49 [(0, .ref (ad 52)), (1, .int x1), (2, .int x2)] [] := by
    intro n
    induction n with
    | zero =>
      intro x1 x2 T hR
      exact nomatch hR
    | succ n ih =>
      intro x1 x2 T hR H locs ls w hl
      rw [fX12_days_l49] at hR
      refine lv_iload_n hx hb dX12_days_49 rfl (lv_at hl 2 rfl) ?_
      refine lv_iload_n hx hb dX12_days_50 rfl (lv_at hl 1 rfl) ?_
      refine lv_icmp_ge (tgt := 68) hx hb dX12_days_51 (by decide) (fun c1 => ?_) (fun c1 => ?_)
      · rw [if_pos c1] at hR
        refine lv_aload_n hx hb dX12_days_68 rfl (lv_at hl 0 rfl) ?_
        refine gX12_now X w lfX12_52 dX12_days_69 ?_
        refine lv_bipush (v := 32) hx hb dX12_days_72 (by decide) ?_
        refine ialT (n := 214) rfl (by decide) X w rfl (by decide) dX12_days_74 ?_
        rw [hQ]
        exact rt_i X hr hlk w hsz rfl rfl (lf2 hR).1 (lf2 hR).2 dX12_days_75
      · rw [if_neg c1] at hR
        refine lv_aload_n hx hb dX12_days_54 rfl (lv_at hl 0 rfl) ?_
        obtain ⟨T3, h2, hR⟩ := bd_e hR
        refine cVv (k := 52) (As := []) (rest := []) X hl.1 w okX12_keep obX12 rfl lmX12_315 (kX12_keep h2) ⟨Nat.le_of_ble_eq_true rfl, Nat.le_of_ble_eq_true rfl⟩ ⟨rfl, rfl⟩ ⟨Nat.zero_le _, Nat.zero_le _⟩ rfl rfl (Nat.le_of_ble_eq_true rfl) dX12_days_55 (fun H locs w => ?_)
        refine lv_aload_n hx hb dX12_days_58 rfl (lv_at hl 0 rfl) ?_
        obtain ⟨T5, h4, hR⟩ := bd_e hR
        refine cVv (k := 52) (As := []) (rest := []) X hl.1 w okX12_passDay obX12 rfl lmX12_335 (kX12_passDay h4) ⟨Nat.le_of_ble_eq_true rfl, Nat.le_of_ble_eq_true rfl⟩ ⟨rfl, rfl⟩ ⟨Nat.zero_le _, Nat.zero_le _⟩ rfl rfl (Nat.le_of_ble_eq_true rfl) dX12_days_59 (fun H locs w => ?_)
        obtain ⟨v6, ev6, hR⟩ := lt_e hR
        refine lv_iinc (v := v6) (lv' := [(2, .int v6), (0, .ref (ad 52)), (1, .int x1)]) hx hb dX12_days_62 hl (k := 2) rfl (by rw [ev6]; rfl) (by decide) rfl (fun ls hl => ?_)
        refine lv_goto (tgt := 49) hx hb dX12_days_65 (by decide) ?_
        exact ih x1 v6 T5 hR _ _ _ w (lv_sub hl [1, 2, 0] rfl)
  have J39 : ∀ (x1 : Int32) (y0 : Int32) (T : SS), fX12_days_j39 N x1 y0 T = some (T', r) → WAT p l ev ({ frames := 2, cells := 0, slots := 0, locals := 43 } : Room) s m args below meth c QQ 3 D dA ad t1 t2 S T o 39 [(0, .ref (ad 52)), (1, .int x1)] [.int y0, .ref (ad 52)] := by
    intro x1 y0 T hR H locs ls w hl
    unfold fX12_days_j39 at hR
    obtain ⟨T3, r2, h1, hR⟩ := b2_e hR
    refine cVi (k := 52) (As := [.int y0]) (rest := []) X hl.1 w okX12_isRefused obX12 rfl lmX12_312 (kX12_isRefused h1) ⟨Nat.le_of_ble_eq_true rfl, Nat.le_of_ble_eq_true rfl⟩ ⟨rfl, rfl⟩ ⟨Nat.zero_le _, Nat.zero_le _⟩ rfl rfl (Nat.le_of_ble_eq_true rfl) dX12_days_39 (fun H locs zr2 w => ?_)
    refine lv_if_eq (tgt := 47) hx hb dX12_days_42 (by decide) (fun c4 => ?_) (fun c4 => ?_)
    · rw [if_pos c4] at hR
      refine lv_iconst (v := 0) hx hb dX12_days_47 (by decide) ?_
      refine lv_istore_n (lv' := [(2, .int 0), (0, .ref (ad 52)), (1, .int x1)]) hx hb dX12_days_48 rfl hl (by decide) rfl (fun ls hl => ?_)
      exact L49 N x1 0 T3 hR _ _ _ w (lv_sub hl [1, 2, 0] rfl)
    · rw [if_neg c4] at hR
      refine lv_iconst (v := -1) hx hb dX12_days_45 (by decide) ?_
      rw [hQ]
      exact rt_i X hr hlk w hsz rfl rfl (lf2 hR).1 (lf2 hR).2 dX12_days_46
  have hl : lv_has ls 3 [(0, .ref (ad 52)), (1, .int p1)] := hl
  unfold fX12_days at hR
  refine lv_aload_n hx hb dX12_days_0 rfl (lv_at hl 0 rfl) ?_
  refine lv_aload_n hx hb dX12_days_1 rfl (lv_at hl 0 rfl) ?_
  refine gX12_ends X w lfX12_245 dX12_days_2 ?_
  refine lv_if_ne (tgt := 12) hx hb dX12_days_5 (by decide) (fun c1 => ?_) (fun c1 => ?_)
  · rw [if_neg c1] at hR
    refine lv_iload_n hx hb dX12_days_12 rfl (lv_at hl 1 rfl) ?_
    refine lv_iconst (v := 1) hx hb dX12_days_13 (by decide) ?_
    refine lv_bipush (v := 60) hx hb dX12_days_14 (by decide) ?_
    obtain ⟨r3, h2, hR⟩ := bd_e hR
    refine cSi (As := [.int p1, .int 1, .int 60]) (rest := [.ref (ad 52)]) X hl.1 w okX12_in lmX12_208 (kX12_in h2) ⟨Nat.le_of_ble_eq_true rfl, Nat.le_of_ble_eq_true rfl⟩ ⟨rfl, rfl⟩ ⟨Nat.zero_le _, Nat.zero_le _⟩ rfl rfl (Nat.le_of_ble_eq_true rfl) dX12_days_16 (fun H locs zr3 w => ?_)
    refine lv_if_ne (tgt := 26) hx hb dX12_days_19 (by decide) (fun c4 => ?_) (fun c4 => ?_)
    · rw [if_neg c4] at hR
      refine lv_aload_n hx hb dX12_days_26 rfl (lv_at hl 0 rfl) ?_
      refine lv_iload_n hx hb dX12_days_27 rfl (lv_at hl 1 rfl) ?_
      obtain ⟨r6, h5, hR⟩ := bd_e hR
      refine cVi (k := 52) (As := [.int p1]) (rest := [.ref (ad 52)]) X hl.1 w okX12_areDays obX12 rfl lmX12_332 (kX12_areDays h5) ⟨Nat.le_of_ble_eq_true rfl, Nat.le_of_ble_eq_true rfl⟩ ⟨rfl, rfl⟩ ⟨Nat.zero_le _, Nat.zero_le _⟩ rfl rfl (Nat.le_of_ble_eq_true rfl) dX12_days_28 (fun H locs zr6 w => ?_)
      refine lv_if_ne (tgt := 38) hx hb dX12_days_31 (by decide) (fun c7 => ?_) (fun c7 => ?_)
      · rw [if_neg c7] at hR
        refine lv_iconst (v := -1) hx hb dX12_days_38 (by decide) ?_
        exact J39 p1 (-1) T hR _ _ _ w (lv_sub hl [0, 1] rfl)
      · rw [if_pos c7] at hR
        refine lv_iconst (v := 4) hx hb dX12_days_34 (by decide) ?_
        refine lv_goto (tgt := 39) hx hb dX12_days_35 (by decide) ?_
        exact J39 p1 4 T hR _ _ _ w (lv_sub hl [0, 1] rfl)
    · rw [if_pos c4] at hR
      refine lv_iconst (v := 1) hx hb dX12_days_22 (by decide) ?_
      refine lv_goto (tgt := 39) hx hb dX12_days_23 (by decide) ?_
      exact J39 p1 1 T hR _ _ _ w (lv_sub hl [0, 1] rfl)
  · rw [if_pos c1] at hR
    refine lv_iconst (v := 0) hx hb dX12_days_8 (by decide) ?_
    refine lv_goto (tgt := 39) hx hb dX12_days_9 (by decide) ?_
    exact J39 p1 0 T hR _ _ _ w (lv_sub hl [0, 1] rfl)
/- LooseEndsModel.wakes(I)Z -/
def fX12_wakes (N : Nat) (T : SS) (p1 : Int32) : Option (SS × Int32) := bd (fX12_in N p1 0 9) fun r2 =>
  if r2 = 0 then
  (some (T, 0))
  else
  (if p1 = (gi T 52 26) then
  (some (T, 0))
  else
  (lt (pj T 52 26 p1) fun T5 =>
  some (T5, 1)))
set_option maxHeartbeats 4000000 in
set_option maxRecDepth 100000 in
theorem kX12_wakes {l : Launch} {D : va_G} {dA : Nat → ClassId} {ad : Nat → Nat} {t1 t2 : Nat} {N : Nat} {S T : SS} {o : Nat → Int64} {p1 : Int32} {r : Int32} {T' : SS} (hR : fX12_wakes N T p1 = some (T', r)) : KI l D dA ad t1 t2 yX12_wakes cX12_wakes 2 .boolean { frames := 1, cells := 0, slots := 0, locals := 22 } [.ref (ad 52), .int p1] S T o r S T' := by
  intro sz
  refine en_ (plainFor_of_name (by decide)) (Nat.le_of_ble_eq_true rfl) ?_
  intro p ev s m args below meth c QQ hQ hsz X hr hlk w ls hl
  have hx := X.1
  have hb := X.2.1
  have hl : lv_has ls 2 [(0, .ref (ad 52)), (1, .int p1)] := hl
  unfold fX12_wakes at hR
  refine lv_iload_n hx hb dX12_wakes_0 rfl (lv_at hl 1 rfl) ?_
  refine lv_iconst (v := 0) hx hb dX12_wakes_1 (by decide) ?_
  refine lv_bipush (v := 9) hx hb dX12_wakes_2 (by decide) ?_
  obtain ⟨r2, h1, hR⟩ := bd_e hR
  refine cSi (As := [.int p1, .int 0, .int 9]) (rest := []) X hl.1 w okX12_in lmX12_208 (kX12_in h1) ⟨Nat.le_of_ble_eq_true rfl, Nat.le_of_ble_eq_true rfl⟩ ⟨rfl, rfl⟩ ⟨Nat.zero_le _, Nat.zero_le _⟩ rfl rfl (Nat.le_of_ble_eq_true rfl) dX12_wakes_4 (fun H locs zr2 w => ?_)
  refine lv_if_eq (tgt := 18) hx hb dX12_wakes_7 (by decide) (fun c3 => ?_) (fun c3 => ?_)
  · rw [if_pos c3] at hR
    refine lv_iconst (v := 0) hx hb dX12_wakes_18 (by decide) ?_
    rw [hQ]
    exact rt_i X hr hlk w hsz rfl rfl (lf2 hR).1 (lf2 hR).2 dX12_wakes_19
  · rw [if_neg c3] at hR
    refine lv_iload_n hx hb dX12_wakes_10 rfl (lv_at hl 1 rfl) ?_
    refine lv_aload_n hx hb dX12_wakes_11 rfl (lv_at hl 0 rfl) ?_
    refine gX12_waked X w lfX12_62 dX12_wakes_12 ?_
    refine lv_icmp_ne (tgt := 20) hx hb dX12_wakes_15 (by decide) (fun c4 => ?_) (fun c4 => ?_)
    · rw [if_neg c4] at hR
      refine lv_aload_n hx hb dX12_wakes_20 rfl (lv_at hl 0 rfl) ?_
      refine lv_iload_n hx hb dX12_wakes_21 rfl (lv_at hl 1 rfl) ?_
      obtain ⟨T5, eT5, hR⟩ := lt_e hR
      refine pX12_waked X w lfX12_62 dX12_wakes_22 (fun H locs w => ?_)
      rw [← eT5] at w
      refine lv_iconst (v := 1) hx hb dX12_wakes_25 (by decide) ?_
      rw [hQ]
      exact rt_i X hr hlk w hsz rfl rfl (lf2 hR).1 (lf2 hR).2 dX12_wakes_26
    · rw [if_pos c4] at hR
      refine lv_iconst (v := 0) hx hb dX12_wakes_18 (by decide) ?_
      rw [hQ]
      exact rt_i X hr hlk w hsz rfl rfl (lf2 hR).1 (lf2 hR).2 dX12_wakes_19
/- LooseEndsModel.draw(I)I -/
def fX12_draw (N : Nat) (T : SS) (p1 : Int32) : Option (SS × Int32) := lt (pl T (((gl T) * 6364136223846793005) + 1442695040888963407)) fun T1 =>
  ck (decide (¬ ((p1 : Int32).toInt64) = 0)) <|
  some (T1, (lrm (lus (gl T1) 33) ((p1 : Int32).toInt64) : Int64).toInt32)
set_option maxHeartbeats 4000000 in
set_option maxRecDepth 100000 in
theorem kX12_draw {l : Launch} {D : va_G} {dA : Nat → ClassId} {ad : Nat → Nat} {t1 t2 : Nat} {N : Nat} {S T : SS} {o : Nat → Int64} {p1 : Int32} {r : Int32} {T' : SS} (hR : fX12_draw N T p1 = some (T', r)) : KI l D dA ad t1 t2 yX12_draw cX12_draw 2 .int { frames := 0, cells := 0, slots := 0, locals := 0 } [.ref (ad 52), .int p1] S T o r S T' := by
  intro sz
  refine en_ (plainFor_of_name (by decide)) (Nat.le_of_ble_eq_true rfl) ?_
  intro p ev s m args below meth c QQ hQ hsz X hr hlk w ls hl
  have hx := X.1
  have hb := X.2.1
  have hl : lv_has ls 2 [(0, .ref (ad 52)), (1, .int p1)] := hl
  unfold fX12_draw at hR
  refine lv_aload_n hx hb dX12_draw_0 rfl (lv_at hl 0 rfl) ?_
  refine lv_aload_n hx hb dX12_draw_1 rfl (lv_at hl 0 rfl) ?_
  refine gX12_draws X w lfX12_338 dX12_draw_2 ?_
  refine lv_ldc2 X.1 X.2.1 X.2.2.2.1 (X.2.2.2.2 _ lcX12_342) dX12_draw_5 ?_
  refine lv_lmul hx hb dX12_draw_8 ?_
  refine lv_ldc2 X.1 X.2.1 X.2.2.2.1 (X.2.2.2.2 _ lcX12_344) dX12_draw_9 ?_
  refine lv_ladd hx hb dX12_draw_12 ?_
  obtain ⟨T1, eT1, hR⟩ := lt_e hR
  refine pX12_draws X w lfX12_338 dX12_draw_13 (fun H locs w => ?_)
  rw [← eT1] at w
  refine lv_aload_n hx hb dX12_draw_16 rfl (lv_at hl 0 rfl) ?_
  refine gX12_draws X w lfX12_338 dX12_draw_17 ?_
  refine lv_bipush (v := 33) hx hb dX12_draw_20 (by decide) ?_
  refine lv_lushr hx hb dX12_draw_22 rfl ?_
  refine lv_iload_n hx hb dX12_draw_23 rfl (lv_at hl 1 rfl) ?_
  refine lv_i2l hx hb dX12_draw_24 rfl ?_
  obtain ⟨g2, hR⟩ := ck_e hR
  refine lv_lrem hx hb dX12_draw_25 (of_decide_eq_true g2) ?_
  refine lv_l2i hx hb dX12_draw_26 rfl ?_
  rw [hQ]
  exact rt_i X hr hlk w hsz rfl rfl (lf2 hR).1 (lf2 hR).2 dX12_draw_27
/- LooseEndsModel.drawDay()V -/
def fX12_drawDay_l2 (N : Nat) : Nat → Int32 → SS → Option (SS)
  | 0, _, _ => none
  | n + 1, x1, T => if 3 ≤ x1 then
  (b2 (fX12_draw N T 10) fun T4 r3 =>
  if (gi T4 52 26) ≤ r3 then
  (some T4)
  else
  (b2 (fX12_draw N T4 (gi T4 52 22)) fun T8 r7 =>
  bd (fX12_isSold N T8 r7) fun r10 =>
  if r10 = 0 then
  (bd (fX12_isKnotted N T8 r7) fun r13 =>
  if r13 = 0 then
  (some T8)
  else
  (b2 (fX12_pullNow N T8 r7) fun T17 r16 =>
  some T17))
  else
  (some T8)))
  else
  (b2 (fX12_draw N T (gi T 52 22)) fun T20 r19 =>
  b2 (fX12_draw N T20 (gi T20 52 22)) fun T23 r22 =>
  bd (fX12_mayTry N T23 r19 r22) fun r25 =>
  if r25 = 0 then
  (lt (x1 + 1) fun v27 =>
  fX12_drawDay_l2 N n v27 T23)
  else
  (if (ga T23 65 2) ≤ (ga T23 67 29) then
  (lt (x1 + 1) fun v29 =>
  fX12_drawDay_l2 N n v29 T23)
  else
  (b2 (fX12_tryNow N T23 r19 r22) fun T32 r31 =>
  lt (x1 + 1) fun v33 =>
  fX12_drawDay_l2 N n v33 T32)))
def fX12_drawDay (N : Nat) (T : SS) : Option (SS) := fX12_drawDay_l2 N N 0 T
set_option maxHeartbeats 4000000 in
set_option maxRecDepth 100000 in
theorem kX12_drawDay {l : Launch} {D : va_G} {dA : Nat → ClassId} {ad : Nat → Nat} {t1 t2 : Nat} {N : Nat} {S T : SS} {o : Nat → Int64} {T' : SS} (hR : fX12_drawDay N T = some T') : KV l D dA ad t1 t2 yX12_drawDay cX12_drawDay 4 { frames := 9, cells := 0, slots := 0, locals := 202 } [.ref (ad 52)] S T o S T' := by
  intro sz
  refine en_ (plainFor_of_name (by decide)) (Nat.le_of_ble_eq_true rfl) ?_
  intro p ev s m args below meth c QQ hQ hsz X hr hlk w ls hl
  have hx := X.1
  have hb := X.2.1
  have L2 : ∀ (n : Nat), ∀ (x1 : Int32) (T : SS), fX12_drawDay_l2 N n x1 T = some T' → WAT p l ev ({ frames := 9, cells := 0, slots := 0, locals := 202 } : Room) s m args below meth c QQ 4 D dA ad t1 t2 S T o 2 [(0, .ref (ad 52)), (1, .int x1)] [] := by
    intro n
    induction n with
    | zero =>
      intro x1 T hR
      exact nomatch hR
    | succ n ih =>
      intro x1 T hR H locs ls w hl
      rw [fX12_drawDay_l2] at hR
      refine lv_iload_n hx hb dX12_drawDay_2 rfl (lv_at hl 1 rfl) ?_
      refine lv_iconst (v := 3) hx hb dX12_drawDay_3 (by decide) ?_
      refine lv_icmp_ge (tgt := 63) hx hb dX12_drawDay_4 (by decide) (fun c1 => ?_) (fun c1 => ?_)
      · rw [if_pos c1] at hR
        refine lv_aload_n hx hb dX12_drawDay_63 rfl (lv_at hl 0 rfl) ?_
        refine lv_bipush (v := 10) hx hb dX12_drawDay_64 (by decide) ?_
        obtain ⟨T4, r3, h2, hR⟩ := b2_e hR
        refine cVi (k := 52) (As := [.int 10]) (rest := []) X hl.1 w okX12_draw obX12 rfl lmX12_346 (kX12_draw h2) ⟨Nat.le_of_ble_eq_true rfl, Nat.le_of_ble_eq_true rfl⟩ ⟨rfl, rfl⟩ ⟨Nat.zero_le _, Nat.zero_le _⟩ rfl rfl (Nat.le_of_ble_eq_true rfl) dX12_drawDay_66 (fun H locs zr3 w => ?_)
        refine lv_aload_n hx hb dX12_drawDay_69 rfl (lv_at hl 0 rfl) ?_
        refine gX12_waked X w lfX12_62 dX12_drawDay_70 ?_
        refine lv_icmp_ge (tgt := 107) hx hb dX12_drawDay_73 (by decide) (fun c5 => ?_) (fun c5 => ?_)
        · rw [if_pos c5] at hR
          rw [hQ]
          exact rt_v X hr hlk w hsz rfl (lf1 hR) dX12_drawDay_107
        · rw [if_neg c5] at hR
          refine lv_aload_n hx hb dX12_drawDay_76 rfl (lv_at hl 0 rfl) ?_
          refine lv_aload_n hx hb dX12_drawDay_77 rfl (lv_at hl 0 rfl) ?_
          refine gX12_ends X w lfX12_245 dX12_drawDay_78 ?_
          obtain ⟨T8, r7, h6, hR⟩ := b2_e hR
          refine cVi (k := 52) (As := [.int (gi T4 52 22)]) (rest := []) X hl.1 w okX12_draw obX12 rfl lmX12_346 (kX12_draw h6) ⟨Nat.le_of_ble_eq_true rfl, Nat.le_of_ble_eq_true rfl⟩ ⟨rfl, rfl⟩ ⟨Nat.zero_le _, Nat.zero_le _⟩ rfl rfl (Nat.le_of_ble_eq_true rfl) dX12_drawDay_81 (fun H locs zr7 w => ?_)
          refine lv_istore_n (lv' := [(1, .int r7), (0, .ref (ad 52))]) hx hb dX12_drawDay_84 rfl hl (by decide) rfl (fun ls hl => ?_)
          refine lv_aload_n hx hb dX12_drawDay_85 rfl (lv_at hl 1 rfl) ?_
          refine lv_iload_n hx hb dX12_drawDay_86 rfl (lv_at hl 0 rfl) ?_
          obtain ⟨r10, h9, hR⟩ := bd_e hR
          refine cVi (k := 52) (As := [.int r7]) (rest := []) X hl.1 w okX12_isSold obX12 rfl lmX12_267 (kX12_isSold h9) ⟨Nat.le_of_ble_eq_true rfl, Nat.le_of_ble_eq_true rfl⟩ ⟨rfl, rfl⟩ ⟨Nat.zero_le _, Nat.zero_le _⟩ rfl rfl (Nat.le_of_ble_eq_true rfl) dX12_drawDay_87 (fun H locs zr10 w => ?_)
          refine lv_if_ne (tgt := 107) hx hb dX12_drawDay_90 (by decide) (fun c11 => ?_) (fun c11 => ?_)
          · rw [if_neg c11] at hR
            rw [hQ]
            exact rt_v X hr hlk w hsz rfl (lf1 hR) dX12_drawDay_107
          · rw [if_pos c11] at hR
            refine lv_aload_n hx hb dX12_drawDay_93 rfl (lv_at hl 1 rfl) ?_
            refine lv_iload_n hx hb dX12_drawDay_94 rfl (lv_at hl 0 rfl) ?_
            obtain ⟨r13, h12, hR⟩ := bd_e hR
            refine cVi (k := 52) (As := [.int r7]) (rest := []) X hl.1 w okX12_isKnotted obX12 rfl lmX12_270 (kX12_isKnotted h12) ⟨Nat.le_of_ble_eq_true rfl, Nat.le_of_ble_eq_true rfl⟩ ⟨rfl, rfl⟩ ⟨Nat.zero_le _, Nat.zero_le _⟩ rfl rfl (Nat.le_of_ble_eq_true rfl) dX12_drawDay_95 (fun H locs zr13 w => ?_)
            refine lv_if_eq (tgt := 107) hx hb dX12_drawDay_98 (by decide) (fun c14 => ?_) (fun c14 => ?_)
            · rw [if_pos c14] at hR
              rw [hQ]
              exact rt_v X hr hlk w hsz rfl (lf1 hR) dX12_drawDay_107
            · rw [if_neg c14] at hR
              refine lv_aload_n hx hb dX12_drawDay_101 rfl (lv_at hl 1 rfl) ?_
              refine lv_iload_n hx hb dX12_drawDay_102 rfl (lv_at hl 0 rfl) ?_
              obtain ⟨T17, r16, h15, hR⟩ := b2_e hR
              refine cVi (k := 52) (As := [.int r7]) (rest := []) X hl.1 w okX12_pullNow obX12 rfl lmX12_321 (kX12_pullNow h15) ⟨Nat.le_of_ble_eq_true rfl, Nat.le_of_ble_eq_true rfl⟩ ⟨rfl, rfl⟩ ⟨Nat.zero_le _, Nat.zero_le _⟩ rfl rfl (Nat.le_of_ble_eq_true rfl) dX12_drawDay_103 (fun H locs zr16 w => ?_)
              refine lv_pop hx hb dX12_drawDay_106 rfl ?_
              rw [hQ]
              exact rt_v X hr hlk w hsz rfl (lf1 hR) dX12_drawDay_107
      · rw [if_neg c1] at hR
        refine lv_aload_n hx hb dX12_drawDay_7 rfl (lv_at hl 0 rfl) ?_
        refine lv_aload_n hx hb dX12_drawDay_8 rfl (lv_at hl 0 rfl) ?_
        refine gX12_ends X w lfX12_245 dX12_drawDay_9 ?_
        obtain ⟨T20, r19, h18, hR⟩ := b2_e hR
        refine cVi (k := 52) (As := [.int (gi T 52 22)]) (rest := []) X hl.1 w okX12_draw obX12 rfl lmX12_346 (kX12_draw h18) ⟨Nat.le_of_ble_eq_true rfl, Nat.le_of_ble_eq_true rfl⟩ ⟨rfl, rfl⟩ ⟨Nat.zero_le _, Nat.zero_le _⟩ rfl rfl (Nat.le_of_ble_eq_true rfl) dX12_drawDay_12 (fun H locs zr19 w => ?_)
        refine lv_istore_n (lv' := [(2, .int r19), (0, .ref (ad 52)), (1, .int x1)]) hx hb dX12_drawDay_15 rfl hl (by decide) rfl (fun ls hl => ?_)
        refine lv_aload_n hx hb dX12_drawDay_16 rfl (lv_at hl 1 rfl) ?_
        refine lv_aload_n hx hb dX12_drawDay_17 rfl (lv_at hl 1 rfl) ?_
        refine gX12_ends X w lfX12_245 dX12_drawDay_18 ?_
        obtain ⟨T23, r22, h21, hR⟩ := b2_e hR
        refine cVi (k := 52) (As := [.int (gi T20 52 22)]) (rest := []) X hl.1 w okX12_draw obX12 rfl lmX12_346 (kX12_draw h21) ⟨Nat.le_of_ble_eq_true rfl, Nat.le_of_ble_eq_true rfl⟩ ⟨rfl, rfl⟩ ⟨Nat.zero_le _, Nat.zero_le _⟩ rfl rfl (Nat.le_of_ble_eq_true rfl) dX12_drawDay_21 (fun H locs zr22 w => ?_)
        refine lv_istore_n (lv' := [(3, .int r22), (2, .int r19), (0, .ref (ad 52)), (1, .int x1)]) hx hb dX12_drawDay_24 rfl hl (by decide) rfl (fun ls hl => ?_)
        refine lv_aload_n hx hb dX12_drawDay_25 rfl (lv_at hl 2 rfl) ?_
        refine lv_iload_n hx hb dX12_drawDay_26 rfl (lv_at hl 1 rfl) ?_
        refine lv_iload_n hx hb dX12_drawDay_27 rfl (lv_at hl 0 rfl) ?_
        obtain ⟨r25, h24, hR⟩ := bd_e hR
        refine cVi (k := 52) (As := [.int r19, .int r22]) (rest := []) X hl.1 w okX12_mayTry obX12 rfl lmX12_309 (kX12_mayTry h24) ⟨Nat.le_of_ble_eq_true rfl, Nat.le_of_ble_eq_true rfl⟩ ⟨rfl, rfl⟩ ⟨Nat.zero_le _, Nat.zero_le _⟩ rfl rfl (Nat.le_of_ble_eq_true rfl) dX12_drawDay_28 (fun H locs zr25 w => ?_)
        refine lv_if_eq (tgt := 57) hx hb dX12_drawDay_31 (by decide) (fun c26 => ?_) (fun c26 => ?_)
        · rw [if_pos c26] at hR
          obtain ⟨v27, ev27, hR⟩ := lt_e hR
          refine lv_iinc (v := v27) (lv' := [(1, .int v27), (3, .int r22), (2, .int r19), (0, .ref (ad 52))]) hx hb dX12_drawDay_57 hl (k := 3) rfl (by rw [ev27]; rfl) (by decide) rfl (fun ls hl => ?_)
          refine lv_goto (tgt := 2) hx hb dX12_drawDay_60 (by decide) ?_
          exact ih v27 T23 hR _ _ _ w (lv_sub hl [3, 0] rfl)
        · rw [if_neg c26] at hR
          refine lv_aload_n hx hb dX12_drawDay_34 rfl (lv_at hl 2 rfl) ?_
          refine gX12_now X w lfX12_52 dX12_drawDay_35 ?_
          refine lv_bipush (v := 29) hx hb dX12_drawDay_38 (by decide) ?_
          refine ialT (n := 214) rfl (by decide) X w rfl (by decide) dX12_drawDay_40 ?_
          refine lv_aload_n hx hb dX12_drawDay_41 rfl (lv_at hl 2 rfl) ?_
          refine gX12_rule X w lfX12_46 dX12_drawDay_42 ?_
          refine lv_iconst (v := 2) hx hb dX12_drawDay_45 (by decide) ?_
          refine ialT (n := 4) rfl (by decide) X w rfl (by decide) dX12_drawDay_46 ?_
          refine lv_icmp_ge (tgt := 57) hx hb dX12_drawDay_47 (by decide) (fun c28 => ?_) (fun c28 => ?_)
          · rw [if_pos c28] at hR
            obtain ⟨v29, ev29, hR⟩ := lt_e hR
            refine lv_iinc (v := v29) (lv' := [(1, .int v29), (3, .int r22), (2, .int r19), (0, .ref (ad 52))]) hx hb dX12_drawDay_57 hl (k := 3) rfl (by rw [ev29]; rfl) (by decide) rfl (fun ls hl => ?_)
            refine lv_goto (tgt := 2) hx hb dX12_drawDay_60 (by decide) ?_
            exact ih v29 T23 hR _ _ _ w (lv_sub hl [3, 0] rfl)
          · rw [if_neg c28] at hR
            refine lv_aload_n hx hb dX12_drawDay_50 rfl (lv_at hl 2 rfl) ?_
            refine lv_iload_n hx hb dX12_drawDay_51 rfl (lv_at hl 1 rfl) ?_
            refine lv_iload_n hx hb dX12_drawDay_52 rfl (lv_at hl 0 rfl) ?_
            obtain ⟨T32, r31, h30, hR⟩ := b2_e hR
            refine cVi (k := 52) (As := [.int r19, .int r22]) (rest := []) X hl.1 w okX12_tryNow obX12 rfl lmX12_318 (kX12_tryNow h30) ⟨Nat.le_of_ble_eq_true rfl, Nat.le_of_ble_eq_true rfl⟩ ⟨rfl, rfl⟩ ⟨Nat.zero_le _, Nat.zero_le _⟩ rfl rfl (Nat.le_of_ble_eq_true rfl) dX12_drawDay_53 (fun H locs zr31 w => ?_)
            refine lv_pop hx hb dX12_drawDay_56 rfl ?_
            obtain ⟨v33, ev33, hR⟩ := lt_e hR
            refine lv_iinc (v := v33) (lv' := [(1, .int v33), (3, .int r22), (2, .int r19), (0, .ref (ad 52))]) hx hb dX12_drawDay_57 hl (k := 3) rfl (by rw [ev33]; rfl) (by decide) rfl (fun ls hl => ?_)
            refine lv_goto (tgt := 2) hx hb dX12_drawDay_60 (by decide) ?_
            exact ih v33 T32 hR _ _ _ w (lv_sub hl [3, 0] rfl)
  have hl : lv_has ls 4 [(0, .ref (ad 52))] := hl
  unfold fX12_drawDay at hR
  refine lv_iconst (v := 0) hx hb dX12_drawDay_0 (by decide) ?_
  refine lv_istore_n (lv' := [(1, .int 0), (0, .ref (ad 52))]) hx hb dX12_drawDay_1 rfl hl (by decide) rfl (fun ls hl => ?_)
  exact L2 N 0 T hR _ _ _ w (lv_sub hl [1, 0] rfl)
/- LooseEndsModel.years(IJ)I -/
def fX12_years_l25 (N : Nat) : Nat → Int32 → Int32 → SS → Option (SS × Int32)
  | 0, _, _, _ => none
  | n + 1, x1, x4, T => if x1 ≤ x4 then
  (some (T, ga T 67 32))
  else
  (bd (fX12_keep N T) fun T3 =>
  bd (fX12_drawDay N T3) fun T5 =>
  bd (fX12_passDay N T5) fun T7 =>
  lt (x4 + 1) fun v8 =>
  fX12_years_l25 N n x1 v8 T7)
def fX12_years (N : Nat) (T : SS) (p1 : Int32) (p2 : Int64) : Option (SS × Int32) := if (gi T 52 22) = 0 then
  (some (T, (-1)))
  else
  (bd (fX12_areDays N T p1) fun r3 =>
  if r3 = 0 then
  (some (T, (-1)))
  else
  (lt (pl T p2) fun T5 =>
  fX12_years_l25 N N p1 0 T5))
set_option maxHeartbeats 4000000 in
set_option maxRecDepth 100000 in
theorem kX12_years {l : Launch} {D : va_G} {dA : Nat → ClassId} {ad : Nat → Nat} {t1 t2 : Nat} {N : Nat} {S T : SS} {o : Nat → Int64} {p1 : Int32} {p2 : Int64} {r : Int32} {T' : SS} (hR : fX12_years N T p1 p2 = some (T', r)) : KI l D dA ad t1 t2 yX12_years cX12_years 5 .int { frames := 10, cells := 0, slots := 0, locals := 225 } [.ref (ad 52), .int p1, .long p2] S T o r S T' := by
  intro sz
  refine en_ (plainFor_of_name (by decide)) (Nat.le_of_ble_eq_true rfl) ?_
  intro p ev s m args below meth c QQ hQ hsz X hr hlk w ls hl
  have hx := X.1
  have hb := X.2.1
  have L25 : ∀ (n : Nat), ∀ (x1 : Int32) (x4 : Int32) (T : SS), fX12_years_l25 N n x1 x4 T = some (T', r) → WAT p l ev ({ frames := 10, cells := 0, slots := 0, locals := 225 } : Room) s m args below meth c QQ 5 D dA ad t1 t2 S T o 25 [(0, .ref (ad 52)), (1, .int x1), (4, .int x4)] [] := by
    intro n
    induction n with
    | zero =>
      intro x1 x4 T hR
      exact nomatch hR
    | succ n ih =>
      intro x1 x4 T hR H locs ls w hl
      rw [fX12_years_l25] at hR
      refine lv_iload hx hb dX12_years_25 (lv_at hl 2 rfl) ?_
      refine lv_iload_n hx hb dX12_years_27 rfl (lv_at hl 1 rfl) ?_
      refine lv_icmp_ge (tgt := 49) hx hb dX12_years_28 (by decide) (fun c1 => ?_) (fun c1 => ?_)
      · rw [if_pos c1] at hR
        refine lv_aload_n hx hb dX12_years_49 rfl (lv_at hl 0 rfl) ?_
        refine gX12_now X w lfX12_52 dX12_years_50 ?_
        refine lv_bipush (v := 32) hx hb dX12_years_53 (by decide) ?_
        refine ialT (n := 214) rfl (by decide) X w rfl (by decide) dX12_years_55 ?_
        rw [hQ]
        exact rt_i X hr hlk w hsz rfl rfl (lf2 hR).1 (lf2 hR).2 dX12_years_56
      · rw [if_neg c1] at hR
        refine lv_aload_n hx hb dX12_years_31 rfl (lv_at hl 0 rfl) ?_
        obtain ⟨T3, h2, hR⟩ := bd_e hR
        refine cVv (k := 52) (As := []) (rest := []) X hl.1 w okX12_keep obX12 rfl lmX12_315 (kX12_keep h2) ⟨Nat.le_of_ble_eq_true rfl, Nat.le_of_ble_eq_true rfl⟩ ⟨rfl, rfl⟩ ⟨Nat.zero_le _, Nat.zero_le _⟩ rfl rfl (Nat.le_of_ble_eq_true rfl) dX12_years_32 (fun H locs w => ?_)
        refine lv_aload_n hx hb dX12_years_35 rfl (lv_at hl 0 rfl) ?_
        obtain ⟨T5, h4, hR⟩ := bd_e hR
        refine cVv (k := 52) (As := []) (rest := []) X hl.1 w okX12_drawDay obX12 rfl lmX12_349 (kX12_drawDay h4) ⟨Nat.le_of_ble_eq_true rfl, Nat.le_of_ble_eq_true rfl⟩ ⟨rfl, rfl⟩ ⟨Nat.zero_le _, Nat.zero_le _⟩ rfl rfl (Nat.le_of_ble_eq_true rfl) dX12_years_36 (fun H locs w => ?_)
        refine lv_aload_n hx hb dX12_years_39 rfl (lv_at hl 0 rfl) ?_
        obtain ⟨T7, h6, hR⟩ := bd_e hR
        refine cVv (k := 52) (As := []) (rest := []) X hl.1 w okX12_passDay obX12 rfl lmX12_335 (kX12_passDay h6) ⟨Nat.le_of_ble_eq_true rfl, Nat.le_of_ble_eq_true rfl⟩ ⟨rfl, rfl⟩ ⟨Nat.zero_le _, Nat.zero_le _⟩ rfl rfl (Nat.le_of_ble_eq_true rfl) dX12_years_40 (fun H locs w => ?_)
        obtain ⟨v8, ev8, hR⟩ := lt_e hR
        refine lv_iinc (v := v8) (lv' := [(4, .int v8), (0, .ref (ad 52)), (1, .int x1)]) hx hb dX12_years_43 hl (k := 2) rfl (by rw [ev8]; rfl) (by decide) rfl (fun ls hl => ?_)
        refine lv_goto (tgt := 25) hx hb dX12_years_46 (by decide) ?_
        exact ih x1 v8 T7 hR _ _ _ w (lv_sub hl [1, 2, 0] rfl)
  have hl : lv_has ls 5 [(0, .ref (ad 52)), (1, .int p1), (2, .long p2)] := hl
  unfold fX12_years at hR
  refine lv_aload_n hx hb dX12_years_0 rfl (lv_at hl 0 rfl) ?_
  refine gX12_ends X w lfX12_245 dX12_years_1 ?_
  refine lv_if_eq (tgt := 15) hx hb dX12_years_4 (by decide) (fun c1 => ?_) (fun c1 => ?_)
  · rw [if_pos c1] at hR
    refine lv_iconst (v := -1) hx hb dX12_years_15 (by decide) ?_
    rw [hQ]
    exact rt_i X hr hlk w hsz rfl rfl (lf2 hR).1 (lf2 hR).2 dX12_years_16
  · rw [if_neg c1] at hR
    refine lv_aload_n hx hb dX12_years_7 rfl (lv_at hl 0 rfl) ?_
    refine lv_iload_n hx hb dX12_years_8 rfl (lv_at hl 1 rfl) ?_
    obtain ⟨r3, h2, hR⟩ := bd_e hR
    refine cVi (k := 52) (As := [.int p1]) (rest := []) X hl.1 w okX12_areDays obX12 rfl lmX12_332 (kX12_areDays h2) ⟨Nat.le_of_ble_eq_true rfl, Nat.le_of_ble_eq_true rfl⟩ ⟨rfl, rfl⟩ ⟨Nat.zero_le _, Nat.zero_le _⟩ rfl rfl (Nat.le_of_ble_eq_true rfl) dX12_years_9 (fun H locs zr3 w => ?_)
    refine lv_if_ne (tgt := 17) hx hb dX12_years_12 (by decide) (fun c4 => ?_) (fun c4 => ?_)
    · rw [if_neg c4] at hR
      refine lv_aload_n hx hb dX12_years_17 rfl (lv_at hl 0 rfl) ?_
      refine lv_lload_n hx hb dX12_years_18 rfl (lv_at hl 2 rfl) ?_
      obtain ⟨T5, eT5, hR⟩ := lt_e hR
      refine pX12_draws X w lfX12_338 dX12_years_19 (fun H locs w => ?_)
      rw [← eT5] at w
      refine lv_iconst (v := 0) hx hb dX12_years_22 (by decide) ?_
      refine lv_istore (lv' := [(4, .int 0), (0, .ref (ad 52)), (1, .int p1), (2, .long p2)]) hx hb dX12_years_23 hl (by decide) rfl (fun ls hl => ?_)
      exact L25 N p1 0 T5 hR _ _ _ w (lv_sub hl [1, 2, 0] rfl)
    · rw [if_pos c4] at hR
      refine lv_iconst (v := -1) hx hb dX12_years_15 (by decide) ?_
      rw [hQ]
      exact rt_i X hr hlk w hsz rfl rfl (lf2 hR).1 (lf2 hR).2 dX12_years_16
/- LooseEndsModel.status(I)I -/
def fX12_status (N : Nat) (T : SS) (p1 : Int32) : Option (Int32) := bd (fX12_in N p1 0 4) fun r2 =>
  if r2 = 0 then
  (some (-1))
  else
  (ck (inb p1 5) <|
  some (ga T 68 p1))
set_option maxHeartbeats 4000000 in
set_option maxRecDepth 100000 in
theorem kX12_status {l : Launch} {D : va_G} {dA : Nat → ClassId} {ad : Nat → Nat} {t1 t2 : Nat} {N : Nat} {S T : SS} {o : Nat → Int64} {p1 : Int32} {r : Int32} (hR : fX12_status N T p1 = some r) : KI l D dA ad t1 t2 yX12_status cX12_status 2 .int { frames := 1, cells := 0, slots := 0, locals := 22 } [.ref (ad 52), .int p1] S T o r S T := by
  intro sz
  refine en_ (plainFor_of_name (by decide)) (Nat.le_of_ble_eq_true rfl) ?_
  intro p ev s m args below meth c QQ hQ hsz X hr hlk w ls hl
  have hx := X.1
  have hb := X.2.1
  have hl : lv_has ls 2 [(0, .ref (ad 52)), (1, .int p1)] := hl
  unfold fX12_status at hR
  refine lv_iload_n hx hb dX12_status_0 rfl (lv_at hl 1 rfl) ?_
  refine lv_iconst (v := 0) hx hb dX12_status_1 (by decide) ?_
  refine lv_iconst (v := 4) hx hb dX12_status_2 (by decide) ?_
  obtain ⟨r2, h1, hR⟩ := bd_e hR
  refine cSi (As := [.int p1, .int 0, .int 4]) (rest := []) X hl.1 w okX12_in lmX12_208 (kX12_in h1) ⟨Nat.le_of_ble_eq_true rfl, Nat.le_of_ble_eq_true rfl⟩ ⟨rfl, rfl⟩ ⟨Nat.zero_le _, Nat.zero_le _⟩ rfl rfl (Nat.le_of_ble_eq_true rfl) dX12_status_3 (fun H locs zr2 w => ?_)
  refine lv_if_eq (tgt := 18) hx hb dX12_status_6 (by decide) (fun c3 => ?_) (fun c3 => ?_)
  · rw [if_pos c3] at hR
    refine lv_iconst (v := -1) hx hb dX12_status_18 (by decide) ?_
    rw [hQ]
    exact rt_i X hr hlk w hsz rfl rfl rfl (lf1 hR) dX12_status_19
  · rw [if_neg c3] at hR
    refine lv_aload_n hx hb dX12_status_9 rfl (lv_at hl 0 rfl) ?_
    refine gX12_refused X w lfX12_55 dX12_status_10 ?_
    refine lv_iload_n hx hb dX12_status_13 rfl (lv_at hl 1 rfl) ?_
    obtain ⟨g4, hR⟩ := ck_e hR
    refine ialT (n := 5) rfl (by decide) X w rfl g4 dX12_status_14 ?_
    refine lv_goto (tgt := 19) hx hb dX12_status_15 (by decide) ?_
    rw [hQ]
    exact rt_i X hr hlk w hsz rfl rfl rfl (lf1 hR) dX12_status_19
/- LooseEndsModel.undo()I -/
def fX12_undo_l21 (N : Nat) : Nat → Int32 → SS → Option (SS × Int32)
  | 0, _, _ => none
  | n + 1, x1, T => if 214 ≤ x1 then
  (some (T, gi T 52 28))
  else
  (ck (inb ((214 * (gi T 52 28)) + x1) 8560) <|
  ck (inb x1 214) <|
  lt (pa T 67 x1 (ga T 69 ((214 * (gi T 52 28)) + x1))) fun T4 =>
  lt (x1 + 1) fun v5 =>
  fX12_undo_l21 N n v5 T4)
def fX12_undo (N : Nat) (T : SS) : Option (SS × Int32) := if (gi T 52 28) = 0 then
  (some (T, (-1)))
  else
  (lt (pj T 52 28 ((gi T 52 28) - 1)) fun T2 =>
  fX12_undo_l21 N N 0 T2)
set_option maxHeartbeats 4000000 in
set_option maxRecDepth 100000 in
theorem kX12_undo {l : Launch} {D : va_G} {dA : Nat → ClassId} {ad : Nat → Nat} {t1 t2 : Nat} {N : Nat} {S T : SS} {o : Nat → Int64} {r : Int32} {T' : SS} (hR : fX12_undo N T = some (T', r)) : KI l D dA ad t1 t2 yX12_undo cX12_undo 2 .int { frames := 0, cells := 0, slots := 0, locals := 0 } [.ref (ad 52)] S T o r S T' := by
  intro sz
  refine en_ (plainFor_of_name (by decide)) (Nat.le_of_ble_eq_true rfl) ?_
  intro p ev s m args below meth c QQ hQ hsz X hr hlk w ls hl
  have hx := X.1
  have hb := X.2.1
  have L21 : ∀ (n : Nat), ∀ (x1 : Int32) (T : SS), fX12_undo_l21 N n x1 T = some (T', r) → WAT p l ev ({ frames := 0, cells := 0, slots := 0, locals := 0 } : Room) s m args below meth c QQ 2 D dA ad t1 t2 S T o 21 [(0, .ref (ad 52)), (1, .int x1)] [] := by
    intro n
    induction n with
    | zero =>
      intro x1 T hR
      exact nomatch hR
    | succ n ih =>
      intro x1 T hR H locs ls w hl
      rw [fX12_undo_l21] at hR
      refine lv_iload_n hx hb dX12_undo_21 rfl (lv_at hl 1 rfl) ?_
      refine lv_sipush (v := 214) hx hb dX12_undo_22 (by decide) ?_
      refine lv_icmp_ge (tgt := 55) hx hb dX12_undo_25 (by decide) (fun c1 => ?_) (fun c1 => ?_)
      · rw [if_pos c1] at hR
        refine lv_aload_n hx hb dX12_undo_55 rfl (lv_at hl 0 rfl) ?_
        refine gX12_acts X w lfX12_254 dX12_undo_56 ?_
        rw [hQ]
        exact rt_i X hr hlk w hsz rfl rfl (lf2 hR).1 (lf2 hR).2 dX12_undo_59
      · rw [if_neg c1] at hR
        refine lv_aload_n hx hb dX12_undo_28 rfl (lv_at hl 0 rfl) ?_
        refine gX12_now X w lfX12_52 dX12_undo_29 ?_
        refine lv_iload_n hx hb dX12_undo_32 rfl (lv_at hl 1 rfl) ?_
        refine lv_aload_n hx hb dX12_undo_33 rfl (lv_at hl 0 rfl) ?_
        refine gX12_kept X w lfX12_65 dX12_undo_34 ?_
        refine lv_sipush (v := 214) hx hb dX12_undo_37 (by decide) ?_
        refine lv_aload_n hx hb dX12_undo_40 rfl (lv_at hl 0 rfl) ?_
        refine gX12_acts X w lfX12_254 dX12_undo_41 ?_
        refine lv_imul hx hb dX12_undo_44 ?_
        refine lv_iload_n hx hb dX12_undo_45 rfl (lv_at hl 1 rfl) ?_
        refine lv_iadd hx hb dX12_undo_46 ?_
        obtain ⟨g2, hR⟩ := ck_e hR
        refine ialT (n := 8560) rfl (by decide) X w rfl g2 dX12_undo_47 ?_
        obtain ⟨g3, hR⟩ := ck_e hR
        obtain ⟨T4, eT4, hR⟩ := lt_e hR
        refine iasT (n := 214) rfl (by decide) X w rfl g3 dX12_undo_48 (fun H locs w => ?_)
        rw [← eT4] at w
        obtain ⟨v5, ev5, hR⟩ := lt_e hR
        refine lv_iinc (v := v5) (lv' := [(1, .int v5), (0, .ref (ad 52))]) hx hb dX12_undo_49 hl (k := 1) rfl (by rw [ev5]; rfl) (by decide) rfl (fun ls hl => ?_)
        refine lv_goto (tgt := 21) hx hb dX12_undo_52 (by decide) ?_
        exact ih v5 T4 hR _ _ _ w (lv_sub hl [1, 0] rfl)
  have hl : lv_has ls 2 [(0, .ref (ad 52))] := hl
  unfold fX12_undo at hR
  refine lv_aload_n hx hb dX12_undo_0 rfl (lv_at hl 0 rfl) ?_
  refine gX12_acts X w lfX12_254 dX12_undo_1 ?_
  refine lv_if_ne (tgt := 9) hx hb dX12_undo_4 (by decide) (fun c1 => ?_) (fun c1 => ?_)
  · rw [if_neg c1] at hR
    refine lv_aload_n hx hb dX12_undo_9 rfl (lv_at hl 0 rfl) ?_
    refine lv_dup hx hb dX12_undo_10 rfl ?_
    refine gX12_acts X w lfX12_254 dX12_undo_11 ?_
    refine lv_iconst (v := 1) hx hb dX12_undo_14 (by decide) ?_
    refine lv_isub hx hb dX12_undo_15 ?_
    obtain ⟨T2, eT2, hR⟩ := lt_e hR
    refine pX12_acts X w lfX12_254 dX12_undo_16 (fun H locs w => ?_)
    rw [← eT2] at w
    refine lv_iconst (v := 0) hx hb dX12_undo_19 (by decide) ?_
    refine lv_istore_n (lv' := [(1, .int 0), (0, .ref (ad 52))]) hx hb dX12_undo_20 rfl hl (by decide) rfl (fun ls hl => ?_)
    exact L21 N 0 T2 hR _ _ _ w (lv_sub hl [1, 0] rfl)
  · rw [if_pos c1] at hR
    refine lv_iconst (v := -1) hx hb dX12_undo_7 (by decide) ?_
    rw [hQ]
    exact rt_i X hr hlk w hsz rfl rfl (lf2 hR).1 (lf2 hR).2 dX12_undo_8
/- LooseEndsModel.log(II)I -/
def fX12_log (N : Nat) (T : SS) (p1 : Int32) (p2 : Int32) : Option (Int32) := bd (fX12_in N p1 0 ((ga T 67 33) - 1)) fun r2 =>
  if r2 = 0 then
  (some (-1))
  else
  (bd (fX12_in N p2 0 2) fun r5 =>
  if r5 = 0 then
  (some (-1))
  else
  (ck (inb ((34 + (3 * (((ga T 67 33) - 1) - p1))) + p2) 214) <|
  some (ga T 67 ((34 + (3 * (((ga T 67 33) - 1) - p1))) + p2))))
set_option maxHeartbeats 4000000 in
set_option maxRecDepth 100000 in
theorem kX12_log {l : Launch} {D : va_G} {dA : Nat → ClassId} {ad : Nat → Nat} {t1 t2 : Nat} {N : Nat} {S T : SS} {o : Nat → Int64} {p1 : Int32} {p2 : Int32} {r : Int32} (hR : fX12_log N T p1 p2 = some r) : KI l D dA ad t1 t2 yX12_log cX12_log 3 .int { frames := 1, cells := 0, slots := 0, locals := 22 } [.ref (ad 52), .int p1, .int p2] S T o r S T := by
  intro sz
  refine en_ (plainFor_of_name (by decide)) (Nat.le_of_ble_eq_true rfl) ?_
  intro p ev s m args below meth c QQ hQ hsz X hr hlk w ls hl
  have hx := X.1
  have hb := X.2.1
  have hl : lv_has ls 3 [(0, .ref (ad 52)), (1, .int p1), (2, .int p2)] := hl
  unfold fX12_log at hR
  refine lv_iload_n hx hb dX12_log_0 rfl (lv_at hl 1 rfl) ?_
  refine lv_iconst (v := 0) hx hb dX12_log_1 (by decide) ?_
  refine lv_aload_n hx hb dX12_log_2 rfl (lv_at hl 0 rfl) ?_
  refine gX12_now X w lfX12_52 dX12_log_3 ?_
  refine lv_bipush (v := 33) hx hb dX12_log_6 (by decide) ?_
  refine ialT (n := 214) rfl (by decide) X w rfl (by decide) dX12_log_8 ?_
  refine lv_iconst (v := 1) hx hb dX12_log_9 (by decide) ?_
  refine lv_isub hx hb dX12_log_10 ?_
  obtain ⟨r2, h1, hR⟩ := bd_e hR
  refine cSi (As := [.int p1, .int 0, .int ((ga T 67 33) - 1)]) (rest := []) X hl.1 w okX12_in lmX12_208 (kX12_in h1) ⟨Nat.le_of_ble_eq_true rfl, Nat.le_of_ble_eq_true rfl⟩ ⟨rfl, rfl⟩ ⟨Nat.zero_le _, Nat.zero_le _⟩ rfl rfl (Nat.le_of_ble_eq_true rfl) dX12_log_11 (fun H locs zr2 w => ?_)
  refine lv_if_eq (tgt := 52) hx hb dX12_log_14 (by decide) (fun c3 => ?_) (fun c3 => ?_)
  · rw [if_pos c3] at hR
    refine lv_iconst (v := -1) hx hb dX12_log_52 (by decide) ?_
    rw [hQ]
    exact rt_i X hr hlk w hsz rfl rfl rfl (lf1 hR) dX12_log_53
  · rw [if_neg c3] at hR
    refine lv_iload_n hx hb dX12_log_17 rfl (lv_at hl 2 rfl) ?_
    refine lv_iconst (v := 0) hx hb dX12_log_18 (by decide) ?_
    refine lv_iconst (v := 2) hx hb dX12_log_19 (by decide) ?_
    obtain ⟨r5, h4, hR⟩ := bd_e hR
    refine cSi (As := [.int p2, .int 0, .int 2]) (rest := []) X hl.1 w okX12_in lmX12_208 (kX12_in h4) ⟨Nat.le_of_ble_eq_true rfl, Nat.le_of_ble_eq_true rfl⟩ ⟨rfl, rfl⟩ ⟨Nat.zero_le _, Nat.zero_le _⟩ rfl rfl (Nat.le_of_ble_eq_true rfl) dX12_log_20 (fun H locs zr5 w => ?_)
    refine lv_if_eq (tgt := 52) hx hb dX12_log_23 (by decide) (fun c6 => ?_) (fun c6 => ?_)
    · rw [if_pos c6] at hR
      refine lv_iconst (v := -1) hx hb dX12_log_52 (by decide) ?_
      rw [hQ]
      exact rt_i X hr hlk w hsz rfl rfl rfl (lf1 hR) dX12_log_53
    · rw [if_neg c6] at hR
      refine lv_aload_n hx hb dX12_log_26 rfl (lv_at hl 0 rfl) ?_
      refine gX12_now X w lfX12_52 dX12_log_27 ?_
      refine lv_bipush (v := 34) hx hb dX12_log_30 (by decide) ?_
      refine lv_iconst (v := 3) hx hb dX12_log_32 (by decide) ?_
      refine lv_aload_n hx hb dX12_log_33 rfl (lv_at hl 0 rfl) ?_
      refine gX12_now X w lfX12_52 dX12_log_34 ?_
      refine lv_bipush (v := 33) hx hb dX12_log_37 (by decide) ?_
      refine ialT (n := 214) rfl (by decide) X w rfl (by decide) dX12_log_39 ?_
      refine lv_iconst (v := 1) hx hb dX12_log_40 (by decide) ?_
      refine lv_isub hx hb dX12_log_41 ?_
      refine lv_iload_n hx hb dX12_log_42 rfl (lv_at hl 1 rfl) ?_
      refine lv_isub hx hb dX12_log_43 ?_
      refine lv_imul hx hb dX12_log_44 ?_
      refine lv_iadd hx hb dX12_log_45 ?_
      refine lv_iload_n hx hb dX12_log_46 rfl (lv_at hl 2 rfl) ?_
      refine lv_iadd hx hb dX12_log_47 ?_
      obtain ⟨g7, hR⟩ := ck_e hR
      refine ialT (n := 214) rfl (by decide) X w rfl g7 dX12_log_48 ?_
      refine lv_goto (tgt := 53) hx hb dX12_log_49 (by decide) ?_
      rw [hQ]
      exact rt_i X hr hlk w hsz rfl rfl rfl (lf1 hR) dX12_log_53
/- LooseEndsModel.areTwo(II)Z -/
def fX12_areTwo (N : Nat) (T : SS) (p1 : Int32) (p2 : Int32) : Option (Int32) := bd (fX12_isEnd N T p1) fun r2 =>
  if r2 = 0 then
  (some 0)
  else
  (bd (fX12_isEnd N T p2) fun r5 =>
  if r5 = 0 then
  (some 0)
  else
  (if p1 = p2 then
  (some 0)
  else
  (some 1)))
set_option maxHeartbeats 4000000 in
set_option maxRecDepth 100000 in
theorem kX12_areTwo {l : Launch} {D : va_G} {dA : Nat → ClassId} {ad : Nat → Nat} {t1 t2 : Nat} {N : Nat} {S T : SS} {o : Nat → Int64} {p1 : Int32} {p2 : Int32} {r : Int32} (hR : fX12_areTwo N T p1 p2 = some r) : KI l D dA ad t1 t2 yX12_areTwo cX12_areTwo 3 .boolean { frames := 2, cells := 0, slots := 0, locals := 43 } [.ref (ad 52), .int p1, .int p2] S T o r S T := by
  intro sz
  refine en_ (plainFor_of_name (by decide)) (Nat.le_of_ble_eq_true rfl) ?_
  intro p ev s m args below meth c QQ hQ hsz X hr hlk w ls hl
  have hx := X.1
  have hb := X.2.1
  have hl : lv_has ls 3 [(0, .ref (ad 52)), (1, .int p1), (2, .int p2)] := hl
  unfold fX12_areTwo at hR
  refine lv_aload_n hx hb dX12_areTwo_0 rfl (lv_at hl 0 rfl) ?_
  refine lv_iload_n hx hb dX12_areTwo_1 rfl (lv_at hl 1 rfl) ?_
  obtain ⟨r2, h1, hR⟩ := bd_e hR
  refine cVi (k := 52) (As := [.int p1]) (rest := []) X hl.1 w okX12_isEnd obX12 rfl lmX12_306 (kX12_isEnd h1) ⟨Nat.le_of_ble_eq_true rfl, Nat.le_of_ble_eq_true rfl⟩ ⟨rfl, rfl⟩ ⟨Nat.zero_le _, Nat.zero_le _⟩ rfl rfl (Nat.le_of_ble_eq_true rfl) dX12_areTwo_2 (fun H locs zr2 w => ?_)
  refine lv_if_eq (tgt := 25) hx hb dX12_areTwo_5 (by decide) (fun c3 => ?_) (fun c3 => ?_)
  · rw [if_pos c3] at hR
    refine lv_iconst (v := 0) hx hb dX12_areTwo_25 (by decide) ?_
    rw [hQ]
    exact rt_i X hr hlk w hsz rfl rfl rfl (lf1 hR) dX12_areTwo_26
  · rw [if_neg c3] at hR
    refine lv_aload_n hx hb dX12_areTwo_8 rfl (lv_at hl 0 rfl) ?_
    refine lv_iload_n hx hb dX12_areTwo_9 rfl (lv_at hl 2 rfl) ?_
    obtain ⟨r5, h4, hR⟩ := bd_e hR
    refine cVi (k := 52) (As := [.int p2]) (rest := []) X hl.1 w okX12_isEnd obX12 rfl lmX12_306 (kX12_isEnd h4) ⟨Nat.le_of_ble_eq_true rfl, Nat.le_of_ble_eq_true rfl⟩ ⟨rfl, rfl⟩ ⟨Nat.zero_le _, Nat.zero_le _⟩ rfl rfl (Nat.le_of_ble_eq_true rfl) dX12_areTwo_10 (fun H locs zr5 w => ?_)
    refine lv_if_eq (tgt := 25) hx hb dX12_areTwo_13 (by decide) (fun c6 => ?_) (fun c6 => ?_)
    · rw [if_pos c6] at hR
      refine lv_iconst (v := 0) hx hb dX12_areTwo_25 (by decide) ?_
      rw [hQ]
      exact rt_i X hr hlk w hsz rfl rfl rfl (lf1 hR) dX12_areTwo_26
    · rw [if_neg c6] at hR
      refine lv_iload_n hx hb dX12_areTwo_16 rfl (lv_at hl 1 rfl) ?_
      refine lv_iload_n hx hb dX12_areTwo_17 rfl (lv_at hl 2 rfl) ?_
      refine lv_icmp_eq (tgt := 25) hx hb dX12_areTwo_18 (by decide) (fun c7 => ?_) (fun c7 => ?_)
      · rw [if_pos c7] at hR
        refine lv_iconst (v := 0) hx hb dX12_areTwo_25 (by decide) ?_
        rw [hQ]
        exact rt_i X hr hlk w hsz rfl rfl rfl (lf1 hR) dX12_areTwo_26
      · rw [if_neg c7] at hR
        refine lv_iconst (v := 1) hx hb dX12_areTwo_21 (by decide) ?_
        refine lv_goto (tgt := 26) hx hb dX12_areTwo_22 (by decide) ?_
        rw [hQ]
        exact rt_i X hr hlk w hsz rfl rfl rfl (lf1 hR) dX12_areTwo_26
/- LooseEndsModel.fits(II)I -/
def fX12_fits (N : Nat) (T : SS) (p1 : Int32) (p2 : Int32) : Option (SS × Int32) := bd (fX12_areTwo N T p1 p2) fun r2 =>
  if r2 = 0 then
  (some (T, (-1)))
  else
  (b2 (fX12_fitsNow N T p1 p2) fun T6 r5 =>
  if r5 = 0 then
  (some (T6, 0))
  else
  (some (T6, 1)))
set_option maxHeartbeats 4000000 in
set_option maxRecDepth 100000 in
theorem kX12_fits {l : Launch} {D : va_G} {dA : Nat → ClassId} {ad : Nat → Nat} {t1 t2 : Nat} {N : Nat} {S T : SS} {o : Nat → Int64} {p1 : Int32} {p2 : Int32} {r : Int32} {T' : SS} (hR : fX12_fits N T p1 p2 = some (T', r)) : KI l D dA ad t1 t2 yX12_fits cX12_fits 3 .int { frames := 8, cells := 0, slots := 0, locals := 179 } [.ref (ad 52), .int p1, .int p2] S T o r S T' := by
  intro sz
  refine en_ (plainFor_of_name (by decide)) (Nat.le_of_ble_eq_true rfl) ?_
  intro p ev s m args below meth c QQ hQ hsz X hr hlk w ls hl
  have hx := X.1
  have hb := X.2.1
  have hl : lv_has ls 3 [(0, .ref (ad 52)), (1, .int p1), (2, .int p2)] := hl
  unfold fX12_fits at hR
  refine lv_aload_n hx hb dX12_fits_0 rfl (lv_at hl 0 rfl) ?_
  refine lv_iload_n hx hb dX12_fits_1 rfl (lv_at hl 1 rfl) ?_
  refine lv_iload_n hx hb dX12_fits_2 rfl (lv_at hl 2 rfl) ?_
  obtain ⟨r2, h1, hR⟩ := bd_e hR
  refine cVi (k := 52) (As := [.int p1, .int p2]) (rest := []) X hl.1 w okX12_areTwo obX12 rfl lmX12_352 (kX12_areTwo h1) ⟨Nat.le_of_ble_eq_true rfl, Nat.le_of_ble_eq_true rfl⟩ ⟨rfl, rfl⟩ ⟨Nat.zero_le _, Nat.zero_le _⟩ rfl rfl (Nat.le_of_ble_eq_true rfl) dX12_fits_3 (fun H locs zr2 w => ?_)
  refine lv_if_ne (tgt := 13) hx hb dX12_fits_6 (by decide) (fun c3 => ?_) (fun c3 => ?_)
  · rw [if_neg c3] at hR
    refine lv_aload_n hx hb dX12_fits_13 rfl (lv_at hl 0 rfl) ?_
    refine lv_iload_n hx hb dX12_fits_14 rfl (lv_at hl 1 rfl) ?_
    refine lv_iload_n hx hb dX12_fits_15 rfl (lv_at hl 2 rfl) ?_
    obtain ⟨T6, r5, h4, hR⟩ := b2_e hR
    refine cVi (k := 52) (As := [.int p1, .int p2]) (rest := []) X hl.1 w okX12_fitsNow obX12 rfl lmX12_294 (kX12_fitsNow h4) ⟨Nat.le_of_ble_eq_true rfl, Nat.le_of_ble_eq_true rfl⟩ ⟨rfl, rfl⟩ ⟨Nat.zero_le _, Nat.zero_le _⟩ rfl rfl (Nat.le_of_ble_eq_true rfl) dX12_fits_16 (fun H locs zr5 w => ?_)
    refine lv_if_eq (tgt := 26) hx hb dX12_fits_19 (by decide) (fun c7 => ?_) (fun c7 => ?_)
    · rw [if_pos c7] at hR
      refine lv_iconst (v := 0) hx hb dX12_fits_26 (by decide) ?_
      rw [hQ]
      exact rt_i X hr hlk w hsz rfl rfl (lf2 hR).1 (lf2 hR).2 dX12_fits_27
    · rw [if_neg c7] at hR
      refine lv_iconst (v := 1) hx hb dX12_fits_22 (by decide) ?_
      refine lv_goto (tgt := 27) hx hb dX12_fits_23 (by decide) ?_
      rw [hQ]
      exact rt_i X hr hlk w hsz rfl rfl (lf2 hR).1 (lf2 hR).2 dX12_fits_27
  · rw [if_pos c3] at hR
    refine lv_iconst (v := -1) hx hb dX12_fits_9 (by decide) ?_
    refine lv_goto (tgt := 27) hx hb dX12_fits_10 (by decide) ?_
    rw [hQ]
    exact rt_i X hr hlk w hsz rfl rfl (lf2 hR).1 (lf2 hR).2 dX12_fits_27
/- LooseEndsModel.couldOf(I)I -/
def fX12_couldOf_l4 (N : Nat) : Nat → Int32 → Int32 → Int32 → SS → Option (SS × Int32)
  | 0, _, _, _, _ => none
  | n + 1, x1, x2, x3, T => if (gi T 52 22) ≤ x3 then
  (some (T, x2))
  else
  (bd (fX12_mayTry N T x1 x3) fun r3 =>
  if r3 = 0 then
  (lt (x2 ||| 0) fun v5 =>
  lt (x3 + 1) fun v6 =>
  fX12_couldOf_l4 N n x1 v5 v6 T)
  else
  (b2 (fX12_fitsNow N T x1 x3) fun T9 r8 =>
  if r8 = 0 then
  (lt (x2 ||| 0) fun v11 =>
  lt (x3 + 1) fun v12 =>
  fX12_couldOf_l4 N n x1 v11 v12 T9)
  else
  (lt (x2 ||| (sl 1 x3)) fun v13 =>
  lt (x3 + 1) fun v14 =>
  fX12_couldOf_l4 N n x1 v13 v14 T9)))
def fX12_couldOf (N : Nat) (T : SS) (p1 : Int32) : Option (SS × Int32) := fX12_couldOf_l4 N N p1 0 0 T
set_option maxHeartbeats 4000000 in
set_option maxRecDepth 100000 in
theorem kX12_couldOf {l : Launch} {D : va_G} {dA : Nat → ClassId} {ad : Nat → Nat} {t1 t2 : Nat} {N : Nat} {S T : SS} {o : Nat → Int64} {p1 : Int32} {r : Int32} {T' : SS} (hR : fX12_couldOf N T p1 = some (T', r)) : KI l D dA ad t1 t2 yX12_couldOf cX12_couldOf 4 .int { frames := 8, cells := 0, slots := 0, locals := 179 } [.ref (ad 52), .int p1] S T o r S T' := by
  intro sz
  refine en_ (plainFor_of_name (by decide)) (Nat.le_of_ble_eq_true rfl) ?_
  intro p ev s m args below meth c QQ hQ hsz X hr hlk w ls hl
  have hx := X.1
  have hb := X.2.1
  have L4 : ∀ (n : Nat), ∀ (x1 : Int32) (x2 : Int32) (x3 : Int32) (T : SS), fX12_couldOf_l4 N n x1 x2 x3 T = some (T', r) → WAT p l ev ({ frames := 8, cells := 0, slots := 0, locals := 179 } : Room) s m args below meth c QQ 4 D dA ad t1 t2 S T o 4 [(0, .ref (ad 52)), (1, .int x1), (2, .int x2), (3, .int x3)] [] := by
    intro n
    induction n with
    | zero =>
      intro x1 x2 x3 T hR
      exact nomatch hR
    | succ n ih =>
      intro x1 x2 x3 T hR H locs ls w hl
      rw [fX12_couldOf_l4] at hR
      refine lv_iload_n hx hb dX12_couldOf_4 rfl (lv_at hl 3 rfl) ?_
      refine lv_aload_n hx hb dX12_couldOf_5 rfl (lv_at hl 0 rfl) ?_
      refine gX12_ends X w lfX12_245 dX12_couldOf_6 ?_
      refine lv_icmp_ge (tgt := 46) hx hb dX12_couldOf_9 (by decide) (fun c1 => ?_) (fun c1 => ?_)
      · rw [if_pos c1] at hR
        refine lv_iload_n hx hb dX12_couldOf_46 rfl (lv_at hl 2 rfl) ?_
        rw [hQ]
        exact rt_i X hr hlk w hsz rfl rfl (lf2 hR).1 (lf2 hR).2 dX12_couldOf_47
      · rw [if_neg c1] at hR
        refine lv_iload_n hx hb dX12_couldOf_12 rfl (lv_at hl 2 rfl) ?_
        refine lv_aload_n hx hb dX12_couldOf_13 rfl (lv_at hl 0 rfl) ?_
        refine lv_iload_n hx hb dX12_couldOf_14 rfl (lv_at hl 1 rfl) ?_
        refine lv_iload_n hx hb dX12_couldOf_15 rfl (lv_at hl 3 rfl) ?_
        obtain ⟨r3, h2, hR⟩ := bd_e hR
        refine cVi (k := 52) (As := [.int x1, .int x3]) (rest := [.int x2]) X hl.1 w okX12_mayTry obX12 rfl lmX12_309 (kX12_mayTry h2) ⟨Nat.le_of_ble_eq_true rfl, Nat.le_of_ble_eq_true rfl⟩ ⟨rfl, rfl⟩ ⟨Nat.zero_le _, Nat.zero_le _⟩ rfl rfl (Nat.le_of_ble_eq_true rfl) dX12_couldOf_16 (fun H locs zr3 w => ?_)
        refine lv_if_eq (tgt := 37) hx hb dX12_couldOf_19 (by decide) (fun c4 => ?_) (fun c4 => ?_)
        · rw [if_pos c4] at hR
          refine lv_iconst (v := 0) hx hb dX12_couldOf_37 (by decide) ?_
          refine lv_ior hx hb dX12_couldOf_38 ?_
          obtain ⟨v5, ev5, hR⟩ := lt_e hR
          refine nm_i ev5 ?_
          refine lv_istore_n (lv' := [(2, .int v5), (0, .ref (ad 52)), (1, .int x1), (3, .int x3)]) hx hb dX12_couldOf_39 rfl hl (by decide) rfl (fun ls hl => ?_)
          obtain ⟨v6, ev6, hR⟩ := lt_e hR
          refine lv_iinc (v := v6) (lv' := [(3, .int v6), (2, .int v5), (0, .ref (ad 52)), (1, .int x1)]) hx hb dX12_couldOf_40 hl (k := 3) rfl (by rw [ev6]; rfl) (by decide) rfl (fun ls hl => ?_)
          refine lv_goto (tgt := 4) hx hb dX12_couldOf_43 (by decide) ?_
          exact ih x1 v5 v6 T hR _ _ _ w (lv_sub hl [2, 3, 1, 0] rfl)
        · rw [if_neg c4] at hR
          refine lv_aload_n hx hb dX12_couldOf_22 rfl (lv_at hl 0 rfl) ?_
          refine lv_iload_n hx hb dX12_couldOf_23 rfl (lv_at hl 1 rfl) ?_
          refine lv_iload_n hx hb dX12_couldOf_24 rfl (lv_at hl 3 rfl) ?_
          obtain ⟨T9, r8, h7, hR⟩ := b2_e hR
          refine cVi (k := 52) (As := [.int x1, .int x3]) (rest := [.int x2]) X hl.1 w okX12_fitsNow obX12 rfl lmX12_294 (kX12_fitsNow h7) ⟨Nat.le_of_ble_eq_true rfl, Nat.le_of_ble_eq_true rfl⟩ ⟨rfl, rfl⟩ ⟨Nat.zero_le _, Nat.zero_le _⟩ rfl rfl (Nat.le_of_ble_eq_true rfl) dX12_couldOf_25 (fun H locs zr8 w => ?_)
          refine lv_if_eq (tgt := 37) hx hb dX12_couldOf_28 (by decide) (fun c10 => ?_) (fun c10 => ?_)
          · rw [if_pos c10] at hR
            refine lv_iconst (v := 0) hx hb dX12_couldOf_37 (by decide) ?_
            refine lv_ior hx hb dX12_couldOf_38 ?_
            obtain ⟨v11, ev11, hR⟩ := lt_e hR
            refine nm_i ev11 ?_
            refine lv_istore_n (lv' := [(2, .int v11), (0, .ref (ad 52)), (1, .int x1), (3, .int x3)]) hx hb dX12_couldOf_39 rfl hl (by decide) rfl (fun ls hl => ?_)
            obtain ⟨v12, ev12, hR⟩ := lt_e hR
            refine lv_iinc (v := v12) (lv' := [(3, .int v12), (2, .int v11), (0, .ref (ad 52)), (1, .int x1)]) hx hb dX12_couldOf_40 hl (k := 3) rfl (by rw [ev12]; rfl) (by decide) rfl (fun ls hl => ?_)
            refine lv_goto (tgt := 4) hx hb dX12_couldOf_43 (by decide) ?_
            exact ih x1 v11 v12 T9 hR _ _ _ w (lv_sub hl [2, 3, 1, 0] rfl)
          · rw [if_neg c10] at hR
            refine lv_iconst (v := 1) hx hb dX12_couldOf_31 (by decide) ?_
            refine lv_iload_n hx hb dX12_couldOf_32 rfl (lv_at hl 3 rfl) ?_
            refine lv_ishl hx hb dX12_couldOf_33 ?_
            refine lv_goto (tgt := 38) hx hb dX12_couldOf_34 (by decide) ?_
            refine lv_ior hx hb dX12_couldOf_38 ?_
            obtain ⟨v13, ev13, hR⟩ := lt_e hR
            refine nm_i ev13 ?_
            refine lv_istore_n (lv' := [(2, .int v13), (0, .ref (ad 52)), (1, .int x1), (3, .int x3)]) hx hb dX12_couldOf_39 rfl hl (by decide) rfl (fun ls hl => ?_)
            obtain ⟨v14, ev14, hR⟩ := lt_e hR
            refine lv_iinc (v := v14) (lv' := [(3, .int v14), (2, .int v13), (0, .ref (ad 52)), (1, .int x1)]) hx hb dX12_couldOf_40 hl (k := 3) rfl (by rw [ev14]; rfl) (by decide) rfl (fun ls hl => ?_)
            refine lv_goto (tgt := 4) hx hb dX12_couldOf_43 (by decide) ?_
            exact ih x1 v13 v14 T9 hR _ _ _ w (lv_sub hl [2, 3, 1, 0] rfl)
  have hl : lv_has ls 4 [(0, .ref (ad 52)), (1, .int p1)] := hl
  unfold fX12_couldOf at hR
  refine lv_iconst (v := 0) hx hb dX12_couldOf_0 (by decide) ?_
  refine lv_istore_n (lv' := [(2, .int 0), (0, .ref (ad 52)), (1, .int p1)]) hx hb dX12_couldOf_1 rfl hl (by decide) rfl (fun ls hl => ?_)
  refine lv_iconst (v := 0) hx hb dX12_couldOf_2 (by decide) ?_
  refine lv_istore_n (lv' := [(3, .int 0), (2, .int 0), (0, .ref (ad 52)), (1, .int p1)]) hx hb dX12_couldOf_3 rfl hl (by decide) rfl (fun ls hl => ?_)
  exact L4 N p1 0 0 T hR _ _ _ w (lv_sub hl [2, 3, 1, 0] rfl)
/- LooseEndsModel.could(I)I -/
def fX12_could (N : Nat) (T : SS) (p1 : Int32) : Option (SS × Int32) := bd (fX12_isEnd N T p1) fun r2 =>
  if r2 = 0 then
  (some (T, (-1)))
  else
  (b2 (fX12_couldOf N T p1) fun T6 r5 =>
  some (T6, r5))
set_option maxHeartbeats 4000000 in
set_option maxRecDepth 100000 in
theorem kX12_could {l : Launch} {D : va_G} {dA : Nat → ClassId} {ad : Nat → Nat} {t1 t2 : Nat} {N : Nat} {S T : SS} {o : Nat → Int64} {p1 : Int32} {r : Int32} {T' : SS} (hR : fX12_could N T p1 = some (T', r)) : KI l D dA ad t1 t2 yX12_could cX12_could 2 .int { frames := 9, cells := 0, slots := 0, locals := 202 } [.ref (ad 52), .int p1] S T o r S T' := by
  intro sz
  refine en_ (plainFor_of_name (by decide)) (Nat.le_of_ble_eq_true rfl) ?_
  intro p ev s m args below meth c QQ hQ hsz X hr hlk w ls hl
  have hx := X.1
  have hb := X.2.1
  have hl : lv_has ls 2 [(0, .ref (ad 52)), (1, .int p1)] := hl
  unfold fX12_could at hR
  refine lv_aload_n hx hb dX12_could_0 rfl (lv_at hl 0 rfl) ?_
  refine lv_iload_n hx hb dX12_could_1 rfl (lv_at hl 1 rfl) ?_
  obtain ⟨r2, h1, hR⟩ := bd_e hR
  refine cVi (k := 52) (As := [.int p1]) (rest := []) X hl.1 w okX12_isEnd obX12 rfl lmX12_306 (kX12_isEnd h1) ⟨Nat.le_of_ble_eq_true rfl, Nat.le_of_ble_eq_true rfl⟩ ⟨rfl, rfl⟩ ⟨Nat.zero_le _, Nat.zero_le _⟩ rfl rfl (Nat.le_of_ble_eq_true rfl) dX12_could_2 (fun H locs zr2 w => ?_)
  refine lv_if_eq (tgt := 16) hx hb dX12_could_5 (by decide) (fun c3 => ?_) (fun c3 => ?_)
  · rw [if_pos c3] at hR
    refine lv_iconst (v := -1) hx hb dX12_could_16 (by decide) ?_
    rw [hQ]
    exact rt_i X hr hlk w hsz rfl rfl (lf2 hR).1 (lf2 hR).2 dX12_could_17
  · rw [if_neg c3] at hR
    refine lv_aload_n hx hb dX12_could_8 rfl (lv_at hl 0 rfl) ?_
    refine lv_iload_n hx hb dX12_could_9 rfl (lv_at hl 1 rfl) ?_
    obtain ⟨T6, r5, h4, hR⟩ := b2_e hR
    refine cVi (k := 52) (As := [.int p1]) (rest := []) X hl.1 w okX12_couldOf obX12 rfl lmX12_355 (kX12_couldOf h4) ⟨Nat.le_of_ble_eq_true rfl, Nat.le_of_ble_eq_true rfl⟩ ⟨rfl, rfl⟩ ⟨Nat.zero_le _, Nat.zero_le _⟩ rfl rfl (Nat.le_of_ble_eq_true rfl) dX12_could_10 (fun H locs zr5 w => ?_)
    refine lv_goto (tgt := 17) hx hb dX12_could_13 (by decide) ?_
    rw [hQ]
    exact rt_i X hr hlk w hsz rfl rfl (lf2 hR).1 (lf2 hR).2 dX12_could_17
/- LooseEndsModel.isBetter(II)Z -/
def fX12_isBetter (N : Nat) (T : SS) (p1 : Int32) (p2 : Int32) : Option (Int32) := if (gi T 52 31) = (-1) then
  (some 1)
  else
  (if (gi T 52 32) < p1 then
  (some 1)
  else
  (if p1 = (gi T 52 32) then
  (if (gi T 52 31) ≤ p2 then
  (some 0)
  else
  (some 1))
  else
  (some 0)))
set_option maxHeartbeats 4000000 in
set_option maxRecDepth 100000 in
theorem kX12_isBetter {l : Launch} {D : va_G} {dA : Nat → ClassId} {ad : Nat → Nat} {t1 t2 : Nat} {N : Nat} {S T : SS} {o : Nat → Int64} {p1 : Int32} {p2 : Int32} {r : Int32} (hR : fX12_isBetter N T p1 p2 = some r) : KI l D dA ad t1 t2 yX12_isBetter cX12_isBetter 3 .boolean { frames := 0, cells := 0, slots := 0, locals := 0 } [.ref (ad 52), .int p1, .int p2] S T o r S T := by
  intro sz
  refine en_ (plainFor_of_name (by decide)) (Nat.le_of_ble_eq_true rfl) ?_
  intro p ev s m args below meth c QQ hQ hsz X hr hlk w ls hl
  have hx := X.1
  have hb := X.2.1
  have hl : lv_has ls 3 [(0, .ref (ad 52)), (1, .int p1), (2, .int p2)] := hl
  unfold fX12_isBetter at hR
  refine lv_aload_n hx hb dX12_isBetter_0 rfl (lv_at hl 0 rfl) ?_
  refine gX12_bestRow X w lfX12_358 dX12_isBetter_1 ?_
  refine lv_iconst (v := -1) hx hb dX12_isBetter_4 (by decide) ?_
  refine lv_icmp_eq (tgt := 32) hx hb dX12_isBetter_5 (by decide) (fun c1 => ?_) (fun c1 => ?_)
  · rw [if_pos c1] at hR
    refine lv_iconst (v := 1) hx hb dX12_isBetter_32 (by decide) ?_
    refine lv_goto (tgt := 37) hx hb dX12_isBetter_33 (by decide) ?_
    rw [hQ]
    exact rt_i X hr hlk w hsz rfl rfl rfl (lf1 hR) dX12_isBetter_37
  · rw [if_neg c1] at hR
    refine lv_iload_n hx hb dX12_isBetter_8 rfl (lv_at hl 1 rfl) ?_
    refine lv_aload_n hx hb dX12_isBetter_9 rfl (lv_at hl 0 rfl) ?_
    refine gX12_bestMany X w lfX12_361 dX12_isBetter_10 ?_
    refine lv_icmp_gt (tgt := 32) hx hb dX12_isBetter_13 (by decide) (fun c2 => ?_) (fun c2 => ?_)
    · rw [if_pos c2] at hR
      refine lv_iconst (v := 1) hx hb dX12_isBetter_32 (by decide) ?_
      refine lv_goto (tgt := 37) hx hb dX12_isBetter_33 (by decide) ?_
      rw [hQ]
      exact rt_i X hr hlk w hsz rfl rfl rfl (lf1 hR) dX12_isBetter_37
    · rw [if_neg c2] at hR
      refine lv_iload_n hx hb dX12_isBetter_16 rfl (lv_at hl 1 rfl) ?_
      refine lv_aload_n hx hb dX12_isBetter_17 rfl (lv_at hl 0 rfl) ?_
      refine gX12_bestMany X w lfX12_361 dX12_isBetter_18 ?_
      refine lv_icmp_ne (tgt := 36) hx hb dX12_isBetter_21 (by decide) (fun c3 => ?_) (fun c3 => ?_)
      · rw [if_neg c3] at hR
        refine lv_iconst (v := 0) hx hb dX12_isBetter_36 (by decide) ?_
        rw [hQ]
        exact rt_i X hr hlk w hsz rfl rfl rfl (lf1 hR) dX12_isBetter_37
      · rw [if_pos c3] at hR
        refine lv_iload_n hx hb dX12_isBetter_24 rfl (lv_at hl 2 rfl) ?_
        refine lv_aload_n hx hb dX12_isBetter_25 rfl (lv_at hl 0 rfl) ?_
        refine gX12_bestRow X w lfX12_358 dX12_isBetter_26 ?_
        refine lv_icmp_ge (tgt := 36) hx hb dX12_isBetter_29 (by decide) (fun c4 => ?_) (fun c4 => ?_)
        · rw [if_pos c4] at hR
          refine lv_iconst (v := 0) hx hb dX12_isBetter_36 (by decide) ?_
          rw [hQ]
          exact rt_i X hr hlk w hsz rfl rfl rfl (lf1 hR) dX12_isBetter_37
        · rw [if_neg c4] at hR
          refine lv_iconst (v := 1) hx hb dX12_isBetter_32 (by decide) ?_
          refine lv_goto (tgt := 37) hx hb dX12_isBetter_33 (by decide) ?_
          rw [hQ]
          exact rt_i X hr hlk w hsz rfl rfl rfl (lf1 hR) dX12_isBetter_37
/- LooseEndsModel.tryKnots(III)V -/
def fX12_tryKnots_l31 (N : Nat) (rec : SS → Int32 → Int32 → Int32 → Option (SS)) : Nat → Int32 → Int32 → Int32 → Int32 → SS → Option (SS)
  | 0, _, _, _, _, _ => none
  | n + 1, x1, x2, x3, x4, T => if (gi T 52 22) ≤ x4 then
  (bd (rec T (x1 + 1) ((10 * x2) + 9) x3) fun T3 =>
  some T3)
  else
  (ck (inb x1 7) <|
  bd (fX12_has N (ga T 70 x1) x4) fun r6 =>
  if r6 = 0 then
  (lt (x4 + 1) fun v8 =>
  fX12_tryKnots_l31 N rec n x1 x2 x3 v8 T)
  else
  (ck (inb (21 + x4) 214) <|
  if (ga T 67 (21 + x4)) = (-1) then
  (bd (fX12_firstOf N T x1) fun r13 =>
  if r13 = x4 then
  (lt (x4 + 1) fun v15 =>
  fX12_tryKnots_l31 N rec n x1 x2 x3 v15 T)
  else
  (ck (inb (14 + x1) 214) <|
  lt (pa T 67 (14 + x1) x4) fun T17 =>
  ck (inb (21 + x4) 214) <|
  lt (pa T17 67 (21 + x4) x1) fun T19 =>
  bd (rec T19 (x1 + 1) ((10 * x2) + x4) (x3 + 1)) fun T21 =>
  ck (inb (14 + x1) 214) <|
  lt (pa T21 67 (14 + x1) (-1)) fun T23 =>
  ck (inb (21 + x4) 214) <|
  lt (pa T23 67 (21 + x4) (-1)) fun T25 =>
  lt (x4 + 1) fun v26 =>
  fX12_tryKnots_l31 N rec n x1 x2 x3 v26 T25))
  else
  (lt (x4 + 1) fun v11 =>
  fX12_tryKnots_l31 N rec n x1 x2 x3 v11 T)))
def fX12_tryKnots_b (N : Nat) (rec : SS → Int32 → Int32 → Int32 → Option (SS)) (T : SS) (p1 : Int32) (p2 : Int32) (p3 : Int32) : Option (SS) := if p1 = (gi T 52 22) then
  (bd (fX12_isBetter N T p3 p2) fun r3 =>
  if r3 = 0 then
  (some T)
  else
  (lt (pj T 52 31 p2) fun T5 =>
  lt (pj T5 52 32 p3) fun T6 =>
  some T6))
  else
  (fX12_tryKnots_l31 N rec N p1 p2 p3 0 T)
def fX12_tryKnots (N : Nat) : Nat → SS → Int32 → Int32 → Int32 → Option (SS)
  | 0, _, _, _, _ => none
  | d + 1, T, p1, p2, p3 => fX12_tryKnots_b N (fX12_tryKnots N d) T p1 p2 p3
set_option maxHeartbeats 4000000 in
set_option maxRecDepth 100000 in
theorem kX12_tryKnots_b {l : Launch} {D : va_G} {dA : Nat → ClassId} {ad : Nat → Nat} {t1 t2 : Nat} {N : Nat} {rec : SS → Int32 → Int32 → Int32 → Option (SS)} {F L : Nat} (hrec : ∀ {S T : SS} {o : Nat → Int64} {p1 : Int32} {p2 : Int32} {p3 : Int32} {T' : SS}, rec T p1 p2 p3 = some T' → KV l D dA ad t1 t2 yX12_tryKnots cX12_tryKnots 5 { frames := F, cells := 0, slots := 0, locals := L } [.ref (ad 52), .int p1, .int p2, .int p3] S T o S T') {S T : SS} {o : Nat → Int64} {p1 : Int32} {p2 : Int32} {p3 : Int32} {T' : SS} (hR : fX12_tryKnots_b N rec T p1 p2 p3 = some T') : KV l D dA ad t1 t2 yX12_tryKnots cX12_tryKnots 5 { frames := F + 1, cells := 0, slots := 0, locals := L + 24 } [.ref (ad 52), .int p1, .int p2, .int p3] S T o S T' := by
  intro sz
  refine en_ (plainFor_of_name (by decide)) (Nat.le_of_ble_eq_true rfl) ?_
  intro p ev s m args below meth c QQ hQ hsz X hr hlk w ls hl
  have hx := X.1
  have hb := X.2.1
  have L31 : ∀ (n : Nat), ∀ (x1 : Int32) (x2 : Int32) (x3 : Int32) (x4 : Int32) (T : SS), fX12_tryKnots_l31 N rec n x1 x2 x3 x4 T = some T' → WAT p l ev ({ frames := F + 1, cells := 0, slots := 0, locals := L + 24 } : Room) s m args below meth c QQ 5 D dA ad t1 t2 S T o 31 [(0, .ref (ad 52)), (1, .int x1), (2, .int x2), (3, .int x3), (4, .int x4)] [] := by
    intro n
    induction n with
    | zero =>
      intro x1 x2 x3 x4 T hR
      exact nomatch hR
    | succ n ih =>
      intro x1 x2 x3 x4 T hR H locs ls w hl
      rw [fX12_tryKnots_l31] at hR
      refine lv_iload hx hb dX12_tryKnots_31 (lv_at hl 4 rfl) ?_
      refine lv_aload_n hx hb dX12_tryKnots_33 rfl (lv_at hl 0 rfl) ?_
      refine gX12_ends X w lfX12_245 dX12_tryKnots_34 ?_
      refine lv_icmp_ge (tgt := 144) hx hb dX12_tryKnots_37 (by decide) (fun c1 => ?_) (fun c1 => ?_)
      · rw [if_pos c1] at hR
        refine lv_aload_n hx hb dX12_tryKnots_144 rfl (lv_at hl 0 rfl) ?_
        refine lv_iload_n hx hb dX12_tryKnots_145 rfl (lv_at hl 1 rfl) ?_
        refine lv_iconst (v := 1) hx hb dX12_tryKnots_146 (by decide) ?_
        refine lv_iadd hx hb dX12_tryKnots_147 ?_
        refine lv_bipush (v := 10) hx hb dX12_tryKnots_148 (by decide) ?_
        refine lv_iload_n hx hb dX12_tryKnots_150 rfl (lv_at hl 2 rfl) ?_
        refine lv_imul hx hb dX12_tryKnots_151 ?_
        refine lv_bipush (v := 9) hx hb dX12_tryKnots_152 (by decide) ?_
        refine lv_iadd hx hb dX12_tryKnots_154 ?_
        refine lv_iload_n hx hb dX12_tryKnots_155 rfl (lv_at hl 3 rfl) ?_
        obtain ⟨T3, h2, hR⟩ := bd_e hR
        refine cVv (k := 52) (As := [.int (x1 + 1), .int ((10 * x2) + 9), .int x3]) (rest := []) X hl.1 w okX12_tryKnots obX12 rfl lmX12_367 (hrec h2) ⟨by show _ ≤ F + 1; dsimp only; omega, by show _ ≤ L + 24; simp only [List.map, Value.category, List.sum_cons, List.sum_nil, Nat.add_assoc]; omega⟩ ⟨rfl, rfl⟩ ⟨Nat.zero_le _, Nat.zero_le _⟩ rfl rfl (Nat.le_of_ble_eq_true rfl) dX12_tryKnots_156 (fun H locs w => ?_)
        rw [hQ]
        exact rt_v X hr hlk w hsz rfl (lf1 hR) dX12_tryKnots_159
      · rw [if_neg c1] at hR
        refine lv_aload_n hx hb dX12_tryKnots_40 rfl (lv_at hl 0 rfl) ?_
        refine gX12_goes X w lfX12_68 dX12_tryKnots_41 ?_
        refine lv_iload_n hx hb dX12_tryKnots_44 rfl (lv_at hl 1 rfl) ?_
        obtain ⟨g4, hR⟩ := ck_e hR
        refine ialT (n := 7) rfl (by decide) X w rfl g4 dX12_tryKnots_45 ?_
        refine lv_iload hx hb dX12_tryKnots_46 (lv_at hl 4 rfl) ?_
        obtain ⟨r6, h5, hR⟩ := bd_e hR
        refine cSi (As := [.int (ga T 70 x1), .int x4]) (rest := []) X hl.1 w okX12_has lmX12_219 (kX12_has h5) ⟨by show _ ≤ F + 1; dsimp only; omega, by show _ ≤ L + 24; simp only [List.map, Value.category, List.sum_cons, List.sum_nil, Nat.add_assoc]; omega⟩ ⟨rfl, rfl⟩ ⟨Nat.zero_le _, Nat.zero_le _⟩ rfl rfl (Nat.le_of_ble_eq_true rfl) dX12_tryKnots_48 (fun H locs zr6 w => ?_)
        refine lv_if_eq (tgt := 138) hx hb dX12_tryKnots_51 (by decide) (fun c7 => ?_) (fun c7 => ?_)
        · rw [if_pos c7] at hR
          obtain ⟨v8, ev8, hR⟩ := lt_e hR
          refine lv_iinc (v := v8) (lv' := [(4, .int v8), (0, .ref (ad 52)), (1, .int x1), (2, .int x2), (3, .int x3)]) hx hb dX12_tryKnots_138 hl (k := 4) rfl (by rw [ev8]; rfl) (by decide) rfl (fun ls hl => ?_)
          refine lv_goto (tgt := 31) hx hb dX12_tryKnots_141 (by decide) ?_
          exact ih x1 x2 x3 v8 T hR _ _ _ w (lv_sub hl [1, 2, 3, 4, 0] rfl)
        · rw [if_neg c7] at hR
          refine lv_aload_n hx hb dX12_tryKnots_54 rfl (lv_at hl 0 rfl) ?_
          refine gX12_now X w lfX12_52 dX12_tryKnots_55 ?_
          refine lv_bipush (v := 21) hx hb dX12_tryKnots_58 (by decide) ?_
          refine lv_iload hx hb dX12_tryKnots_60 (lv_at hl 4 rfl) ?_
          refine lv_iadd hx hb dX12_tryKnots_62 ?_
          obtain ⟨g9, hR⟩ := ck_e hR
          refine ialT (n := 214) rfl (by decide) X w rfl g9 dX12_tryKnots_63 ?_
          refine lv_iconst (v := -1) hx hb dX12_tryKnots_64 (by decide) ?_
          refine lv_icmp_ne (tgt := 138) hx hb dX12_tryKnots_65 (by decide) (fun c10 => ?_) (fun c10 => ?_)
          · rw [if_neg c10] at hR
            obtain ⟨v11, ev11, hR⟩ := lt_e hR
            refine lv_iinc (v := v11) (lv' := [(4, .int v11), (0, .ref (ad 52)), (1, .int x1), (2, .int x2), (3, .int x3)]) hx hb dX12_tryKnots_138 hl (k := 4) rfl (by rw [ev11]; rfl) (by decide) rfl (fun ls hl => ?_)
            refine lv_goto (tgt := 31) hx hb dX12_tryKnots_141 (by decide) ?_
            exact ih x1 x2 x3 v11 T hR _ _ _ w (lv_sub hl [1, 2, 3, 4, 0] rfl)
          · rw [if_pos c10] at hR
            refine lv_aload_n hx hb dX12_tryKnots_68 rfl (lv_at hl 0 rfl) ?_
            refine lv_iload_n hx hb dX12_tryKnots_69 rfl (lv_at hl 1 rfl) ?_
            obtain ⟨r13, h12, hR⟩ := bd_e hR
            refine cVi (k := 52) (As := [.int x1]) (rest := []) X hl.1 w okX12_firstOf obX12 rfl lmX12_273 (kX12_firstOf h12) ⟨by show _ ≤ F + 1; dsimp only; omega, by show _ ≤ L + 24; simp only [List.map, Value.category, List.sum_cons, List.sum_nil, Nat.add_assoc]; omega⟩ ⟨rfl, rfl⟩ ⟨Nat.zero_le _, Nat.zero_le _⟩ rfl rfl (Nat.le_of_ble_eq_true rfl) dX12_tryKnots_70 (fun H locs zr13 w => ?_)
            refine lv_iload hx hb dX12_tryKnots_73 (lv_at hl 4 rfl) ?_
            refine lv_icmp_eq (tgt := 138) hx hb dX12_tryKnots_75 (by decide) (fun c14 => ?_) (fun c14 => ?_)
            · rw [if_pos c14] at hR
              obtain ⟨v15, ev15, hR⟩ := lt_e hR
              refine lv_iinc (v := v15) (lv' := [(4, .int v15), (0, .ref (ad 52)), (1, .int x1), (2, .int x2), (3, .int x3)]) hx hb dX12_tryKnots_138 hl (k := 4) rfl (by rw [ev15]; rfl) (by decide) rfl (fun ls hl => ?_)
              refine lv_goto (tgt := 31) hx hb dX12_tryKnots_141 (by decide) ?_
              exact ih x1 x2 x3 v15 T hR _ _ _ w (lv_sub hl [1, 2, 3, 4, 0] rfl)
            · rw [if_neg c14] at hR
              refine lv_aload_n hx hb dX12_tryKnots_78 rfl (lv_at hl 0 rfl) ?_
              refine gX12_now X w lfX12_52 dX12_tryKnots_79 ?_
              refine lv_bipush (v := 14) hx hb dX12_tryKnots_82 (by decide) ?_
              refine lv_iload_n hx hb dX12_tryKnots_84 rfl (lv_at hl 1 rfl) ?_
              refine lv_iadd hx hb dX12_tryKnots_85 ?_
              refine lv_iload hx hb dX12_tryKnots_86 (lv_at hl 4 rfl) ?_
              obtain ⟨g16, hR⟩ := ck_e hR
              obtain ⟨T17, eT17, hR⟩ := lt_e hR
              refine iasT (n := 214) rfl (by decide) X w rfl g16 dX12_tryKnots_88 (fun H locs w => ?_)
              rw [← eT17] at w
              refine lv_aload_n hx hb dX12_tryKnots_89 rfl (lv_at hl 0 rfl) ?_
              refine gX12_now X w lfX12_52 dX12_tryKnots_90 ?_
              refine lv_bipush (v := 21) hx hb dX12_tryKnots_93 (by decide) ?_
              refine lv_iload hx hb dX12_tryKnots_95 (lv_at hl 4 rfl) ?_
              refine lv_iadd hx hb dX12_tryKnots_97 ?_
              refine lv_iload_n hx hb dX12_tryKnots_98 rfl (lv_at hl 1 rfl) ?_
              obtain ⟨g18, hR⟩ := ck_e hR
              obtain ⟨T19, eT19, hR⟩ := lt_e hR
              refine iasT (n := 214) rfl (by decide) X w rfl g18 dX12_tryKnots_99 (fun H locs w => ?_)
              rw [← eT19] at w
              refine lv_aload_n hx hb dX12_tryKnots_100 rfl (lv_at hl 0 rfl) ?_
              refine lv_iload_n hx hb dX12_tryKnots_101 rfl (lv_at hl 1 rfl) ?_
              refine lv_iconst (v := 1) hx hb dX12_tryKnots_102 (by decide) ?_
              refine lv_iadd hx hb dX12_tryKnots_103 ?_
              refine lv_bipush (v := 10) hx hb dX12_tryKnots_104 (by decide) ?_
              refine lv_iload_n hx hb dX12_tryKnots_106 rfl (lv_at hl 2 rfl) ?_
              refine lv_imul hx hb dX12_tryKnots_107 ?_
              refine lv_iload hx hb dX12_tryKnots_108 (lv_at hl 4 rfl) ?_
              refine lv_iadd hx hb dX12_tryKnots_110 ?_
              refine lv_iload_n hx hb dX12_tryKnots_111 rfl (lv_at hl 3 rfl) ?_
              refine lv_iconst (v := 1) hx hb dX12_tryKnots_112 (by decide) ?_
              refine lv_iadd hx hb dX12_tryKnots_113 ?_
              obtain ⟨T21, h20, hR⟩ := bd_e hR
              refine cVv (k := 52) (As := [.int (x1 + 1), .int ((10 * x2) + x4), .int (x3 + 1)]) (rest := []) X hl.1 w okX12_tryKnots obX12 rfl lmX12_367 (hrec h20) ⟨by show _ ≤ F + 1; dsimp only; omega, by show _ ≤ L + 24; simp only [List.map, Value.category, List.sum_cons, List.sum_nil, Nat.add_assoc]; omega⟩ ⟨rfl, rfl⟩ ⟨Nat.zero_le _, Nat.zero_le _⟩ rfl rfl (Nat.le_of_ble_eq_true rfl) dX12_tryKnots_114 (fun H locs w => ?_)
              refine lv_aload_n hx hb dX12_tryKnots_117 rfl (lv_at hl 0 rfl) ?_
              refine gX12_now X w lfX12_52 dX12_tryKnots_118 ?_
              refine lv_bipush (v := 14) hx hb dX12_tryKnots_121 (by decide) ?_
              refine lv_iload_n hx hb dX12_tryKnots_123 rfl (lv_at hl 1 rfl) ?_
              refine lv_iadd hx hb dX12_tryKnots_124 ?_
              refine lv_iconst (v := -1) hx hb dX12_tryKnots_125 (by decide) ?_
              obtain ⟨g22, hR⟩ := ck_e hR
              obtain ⟨T23, eT23, hR⟩ := lt_e hR
              refine iasT (n := 214) rfl (by decide) X w rfl g22 dX12_tryKnots_126 (fun H locs w => ?_)
              rw [← eT23] at w
              refine lv_aload_n hx hb dX12_tryKnots_127 rfl (lv_at hl 0 rfl) ?_
              refine gX12_now X w lfX12_52 dX12_tryKnots_128 ?_
              refine lv_bipush (v := 21) hx hb dX12_tryKnots_131 (by decide) ?_
              refine lv_iload hx hb dX12_tryKnots_133 (lv_at hl 4 rfl) ?_
              refine lv_iadd hx hb dX12_tryKnots_135 ?_
              refine lv_iconst (v := -1) hx hb dX12_tryKnots_136 (by decide) ?_
              obtain ⟨g24, hR⟩ := ck_e hR
              obtain ⟨T25, eT25, hR⟩ := lt_e hR
              refine iasT (n := 214) rfl (by decide) X w rfl g24 dX12_tryKnots_137 (fun H locs w => ?_)
              rw [← eT25] at w
              obtain ⟨v26, ev26, hR⟩ := lt_e hR
              refine lv_iinc (v := v26) (lv' := [(4, .int v26), (0, .ref (ad 52)), (1, .int x1), (2, .int x2), (3, .int x3)]) hx hb dX12_tryKnots_138 hl (k := 4) rfl (by rw [ev26]; rfl) (by decide) rfl (fun ls hl => ?_)
              refine lv_goto (tgt := 31) hx hb dX12_tryKnots_141 (by decide) ?_
              exact ih x1 x2 x3 v26 T25 hR _ _ _ w (lv_sub hl [1, 2, 3, 4, 0] rfl)
  have hl : lv_has ls 5 [(0, .ref (ad 52)), (1, .int p1), (2, .int p2), (3, .int p3)] := hl
  unfold fX12_tryKnots_b at hR
  refine lv_iload_n hx hb dX12_tryKnots_0 rfl (lv_at hl 1 rfl) ?_
  refine lv_aload_n hx hb dX12_tryKnots_1 rfl (lv_at hl 0 rfl) ?_
  refine gX12_ends X w lfX12_245 dX12_tryKnots_2 ?_
  refine lv_icmp_ne (tgt := 28) hx hb dX12_tryKnots_5 (by decide) (fun c1 => ?_) (fun c1 => ?_)
  · rw [if_neg c1] at hR
    refine lv_iconst (v := 0) hx hb dX12_tryKnots_28 (by decide) ?_
    refine lv_istore (lv' := [(4, .int 0), (0, .ref (ad 52)), (1, .int p1), (2, .int p2), (3, .int p3)]) hx hb dX12_tryKnots_29 hl (by decide) rfl (fun ls hl => ?_)
    exact L31 N p1 p2 p3 0 T hR _ _ _ w (lv_sub hl [1, 2, 3, 4, 0] rfl)
  · rw [if_pos c1] at hR
    refine lv_aload_n hx hb dX12_tryKnots_8 rfl (lv_at hl 0 rfl) ?_
    refine lv_iload_n hx hb dX12_tryKnots_9 rfl (lv_at hl 3 rfl) ?_
    refine lv_iload_n hx hb dX12_tryKnots_10 rfl (lv_at hl 2 rfl) ?_
    obtain ⟨r3, h2, hR⟩ := bd_e hR
    refine cVi (k := 52) (As := [.int p3, .int p2]) (rest := []) X hl.1 w okX12_isBetter obX12 rfl lmX12_364 (kX12_isBetter h2) ⟨by show _ ≤ F + 1; dsimp only; omega, by show _ ≤ L + 24; simp only [List.map, Value.category, List.sum_cons, List.sum_nil, Nat.add_assoc]; omega⟩ ⟨rfl, rfl⟩ ⟨Nat.zero_le _, Nat.zero_le _⟩ rfl rfl (Nat.le_of_ble_eq_true rfl) dX12_tryKnots_11 (fun H locs zr3 w => ?_)
    refine lv_if_eq (tgt := 27) hx hb dX12_tryKnots_14 (by decide) (fun c4 => ?_) (fun c4 => ?_)
    · rw [if_pos c4] at hR
      rw [hQ]
      exact rt_v X hr hlk w hsz rfl (lf1 hR) dX12_tryKnots_27
    · rw [if_neg c4] at hR
      refine lv_aload_n hx hb dX12_tryKnots_17 rfl (lv_at hl 0 rfl) ?_
      refine lv_iload_n hx hb dX12_tryKnots_18 rfl (lv_at hl 2 rfl) ?_
      obtain ⟨T5, eT5, hR⟩ := lt_e hR
      refine pX12_bestRow X w lfX12_358 dX12_tryKnots_19 (fun H locs w => ?_)
      rw [← eT5] at w
      refine lv_aload_n hx hb dX12_tryKnots_22 rfl (lv_at hl 0 rfl) ?_
      refine lv_iload_n hx hb dX12_tryKnots_23 rfl (lv_at hl 3 rfl) ?_
      obtain ⟨T6, eT6, hR⟩ := lt_e hR
      refine pX12_bestMany X w lfX12_361 dX12_tryKnots_24 (fun H locs w => ?_)
      rw [← eT6] at w
      rw [hQ]
      exact rt_v X hr hlk w hsz rfl (lf1 hR) dX12_tryKnots_27
theorem kX12_tryKnots {l : Launch} {D : va_G} {dA : Nat → ClassId} {ad : Nat → Nat} {t1 t2 : Nat} {N : Nat} (d : Nat) : ∀ {S T : SS} {o : Nat → Int64} {p1 : Int32} {p2 : Int32} {p3 : Int32} {T' : SS}, fX12_tryKnots N d T p1 p2 p3 = some T' → KV l D dA ad t1 t2 yX12_tryKnots cX12_tryKnots 5 { frames := 1 * d, cells := 0, slots := 0, locals := 24 * d } [.ref (ad 52), .int p1, .int p2, .int p3] S T o S T' := by
  induction d with
  | zero =>
    intro S T o p1 p2 p3 T' hR
    exact nomatch hR
  | succ d ih =>
    intro S T o p1 p2 p3 T' hR
    exact kX12_tryKnots_b ih hR
/- LooseEndsModel.knots(I)I -/
def fX12_knots_l20 (N : Nat) : Nat → Int32 → Int32 → SS → Option (SS × Int32)
  | 0, _, _, _ => none
  | n + 1, x1, x2, T => if (gi T 52 22) ≤ x2 then
  (lt (pj T 52 31 (-1)) fun T2 =>
  bd (fX12_tryKnots N 10 T2 0 0 0) fun T4 =>
  if x1 = 0 then
  (some (T4, gi T4 52 31))
  else
  (some (T4, gi T4 52 32)))
  else
  (b2 (fX12_couldOf N T x2) fun T8 r7 =>
  ck (inb x2 7) <|
  lt (pa T8 70 x2 r7) fun T10 =>
  lt (x2 + 1) fun v11 =>
  fX12_knots_l20 N n x1 v11 T10)
def fX12_knots (N : Nat) (T : SS) (p1 : Int32) : Option (SS × Int32) := if (gi T 52 22) = 0 then
  (some (T, (-1)))
  else
  (bd (fX12_in N p1 0 1) fun r3 =>
  if r3 = 0 then
  (some (T, (-1)))
  else
  (fX12_knots_l20 N N p1 0 T))
set_option maxHeartbeats 4000000 in
set_option maxRecDepth 100000 in
theorem kX12_knots {l : Launch} {D : va_G} {dA : Nat → ClassId} {ad : Nat → Nat} {t1 t2 : Nat} {N : Nat} {S T : SS} {o : Nat → Int64} {p1 : Int32} {r : Int32} {T' : SS} (hR : fX12_knots N T p1 = some (T', r)) : KI l D dA ad t1 t2 yX12_knots cX12_knots 3 .int { frames := 11, cells := 0, slots := 0, locals := 264 } [.ref (ad 52), .int p1] S T o r S T' := by
  intro sz
  refine en_ (plainFor_of_name (by decide)) (Nat.le_of_ble_eq_true rfl) ?_
  intro p ev s m args below meth c QQ hQ hsz X hr hlk w ls hl
  have hx := X.1
  have hb := X.2.1
  have L20 : ∀ (n : Nat), ∀ (x1 : Int32) (x2 : Int32) (T : SS), fX12_knots_l20 N n x1 x2 T = some (T', r) → WAT p l ev ({ frames := 11, cells := 0, slots := 0, locals := 264 } : Room) s m args below meth c QQ 3 D dA ad t1 t2 S T o 20 [(0, .ref (ad 52)), (1, .int x1), (2, .int x2)] [] := by
    intro n
    induction n with
    | zero =>
      intro x1 x2 T hR
      exact nomatch hR
    | succ n ih =>
      intro x1 x2 T hR H locs ls w hl
      rw [fX12_knots_l20] at hR
      refine lv_iload_n hx hb dX12_knots_20 rfl (lv_at hl 2 rfl) ?_
      refine lv_aload_n hx hb dX12_knots_21 rfl (lv_at hl 0 rfl) ?_
      refine gX12_ends X w lfX12_245 dX12_knots_22 ?_
      refine lv_icmp_ge (tgt := 45) hx hb dX12_knots_25 (by decide) (fun c1 => ?_) (fun c1 => ?_)
      · rw [if_pos c1] at hR
        refine lv_aload_n hx hb dX12_knots_45 rfl (lv_at hl 0 rfl) ?_
        refine lv_iconst (v := -1) hx hb dX12_knots_46 (by decide) ?_
        obtain ⟨T2, eT2, hR⟩ := lt_e hR
        refine pX12_bestRow X w lfX12_358 dX12_knots_47 (fun H locs w => ?_)
        rw [← eT2] at w
        refine lv_aload_n hx hb dX12_knots_50 rfl (lv_at hl 0 rfl) ?_
        refine lv_iconst (v := 0) hx hb dX12_knots_51 (by decide) ?_
        refine lv_iconst (v := 0) hx hb dX12_knots_52 (by decide) ?_
        refine lv_iconst (v := 0) hx hb dX12_knots_53 (by decide) ?_
        obtain ⟨T4, h3, hR⟩ := bd_e hR
        refine cVv (k := 52) (As := [.int 0, .int 0, .int 0]) (rest := []) X hl.1 w okX12_tryKnots obX12 rfl lmX12_367 (kX12_tryKnots 10 h3) ⟨Nat.le_of_ble_eq_true rfl, Nat.le_of_ble_eq_true rfl⟩ ⟨rfl, rfl⟩ ⟨Nat.zero_le _, Nat.zero_le _⟩ rfl rfl (Nat.le_of_ble_eq_true rfl) dX12_knots_54 (fun H locs w => ?_)
        refine lv_iload_n hx hb dX12_knots_57 rfl (lv_at hl 1 rfl) ?_
        refine lv_if_ne (tgt := 68) hx hb dX12_knots_58 (by decide) (fun c5 => ?_) (fun c5 => ?_)
        · rw [if_neg c5] at hR
          refine lv_aload_n hx hb dX12_knots_68 rfl (lv_at hl 0 rfl) ?_
          refine gX12_bestMany X w lfX12_361 dX12_knots_69 ?_
          rw [hQ]
          exact rt_i X hr hlk w hsz rfl rfl (lf2 hR).1 (lf2 hR).2 dX12_knots_72
        · rw [if_pos c5] at hR
          refine lv_aload_n hx hb dX12_knots_61 rfl (lv_at hl 0 rfl) ?_
          refine gX12_bestRow X w lfX12_358 dX12_knots_62 ?_
          refine lv_goto (tgt := 72) hx hb dX12_knots_65 (by decide) ?_
          rw [hQ]
          exact rt_i X hr hlk w hsz rfl rfl (lf2 hR).1 (lf2 hR).2 dX12_knots_72
      · rw [if_neg c1] at hR
        refine lv_aload_n hx hb dX12_knots_28 rfl (lv_at hl 0 rfl) ?_
        refine gX12_goes X w lfX12_68 dX12_knots_29 ?_
        refine lv_iload_n hx hb dX12_knots_32 rfl (lv_at hl 2 rfl) ?_
        refine lv_aload_n hx hb dX12_knots_33 rfl (lv_at hl 0 rfl) ?_
        refine lv_iload_n hx hb dX12_knots_34 rfl (lv_at hl 2 rfl) ?_
        obtain ⟨T8, r7, h6, hR⟩ := b2_e hR
        refine cVi (k := 52) (As := [.int x2]) (rest := [.int x2, .ref (ad 70)]) X hl.1 w okX12_couldOf obX12 rfl lmX12_355 (kX12_couldOf h6) ⟨Nat.le_of_ble_eq_true rfl, Nat.le_of_ble_eq_true rfl⟩ ⟨rfl, rfl⟩ ⟨Nat.zero_le _, Nat.zero_le _⟩ rfl rfl (Nat.le_of_ble_eq_true rfl) dX12_knots_35 (fun H locs zr7 w => ?_)
        obtain ⟨g9, hR⟩ := ck_e hR
        obtain ⟨T10, eT10, hR⟩ := lt_e hR
        refine iasT (n := 7) rfl (by decide) X w rfl g9 dX12_knots_38 (fun H locs w => ?_)
        rw [← eT10] at w
        obtain ⟨v11, ev11, hR⟩ := lt_e hR
        refine lv_iinc (v := v11) (lv' := [(2, .int v11), (0, .ref (ad 52)), (1, .int x1)]) hx hb dX12_knots_39 hl (k := 2) rfl (by rw [ev11]; rfl) (by decide) rfl (fun ls hl => ?_)
        refine lv_goto (tgt := 20) hx hb dX12_knots_42 (by decide) ?_
        exact ih x1 v11 T10 hR _ _ _ w (lv_sub hl [1, 2, 0] rfl)
  have hl : lv_has ls 3 [(0, .ref (ad 52)), (1, .int p1)] := hl
  unfold fX12_knots at hR
  refine lv_aload_n hx hb dX12_knots_0 rfl (lv_at hl 0 rfl) ?_
  refine gX12_ends X w lfX12_245 dX12_knots_1 ?_
  refine lv_if_eq (tgt := 16) hx hb dX12_knots_4 (by decide) (fun c1 => ?_) (fun c1 => ?_)
  · rw [if_pos c1] at hR
    refine lv_iconst (v := -1) hx hb dX12_knots_16 (by decide) ?_
    rw [hQ]
    exact rt_i X hr hlk w hsz rfl rfl (lf2 hR).1 (lf2 hR).2 dX12_knots_17
  · rw [if_neg c1] at hR
    refine lv_iload_n hx hb dX12_knots_7 rfl (lv_at hl 1 rfl) ?_
    refine lv_iconst (v := 0) hx hb dX12_knots_8 (by decide) ?_
    refine lv_iconst (v := 1) hx hb dX12_knots_9 (by decide) ?_
    obtain ⟨r3, h2, hR⟩ := bd_e hR
    refine cSi (As := [.int p1, .int 0, .int 1]) (rest := []) X hl.1 w okX12_in lmX12_208 (kX12_in h2) ⟨Nat.le_of_ble_eq_true rfl, Nat.le_of_ble_eq_true rfl⟩ ⟨rfl, rfl⟩ ⟨Nat.zero_le _, Nat.zero_le _⟩ rfl rfl (Nat.le_of_ble_eq_true rfl) dX12_knots_10 (fun H locs zr3 w => ?_)
    refine lv_if_ne (tgt := 18) hx hb dX12_knots_13 (by decide) (fun c4 => ?_) (fun c4 => ?_)
    · rw [if_neg c4] at hR
      refine lv_iconst (v := 0) hx hb dX12_knots_18 (by decide) ?_
      refine lv_istore_n (lv' := [(2, .int 0), (0, .ref (ad 52)), (1, .int p1)]) hx hb dX12_knots_19 rfl hl (by decide) rfl (fun ls hl => ?_)
      exact L20 N p1 0 T hR _ _ _ w (lv_sub hl [1, 2, 0] rfl)
    · rw [if_pos c4] at hR
      refine lv_iconst (v := -1) hx hb dX12_knots_16 (by decide) ?_
      rw [hQ]
      exact rt_i X hr hlk w hsz rfl rfl (lf2 hR).1 (lf2 hR).2 dX12_knots_17
/- LooseEndsModel.tryTales(IIIII)V -/
def fX12_tryTales_l84 (N : Nat) (rec : SS → Int32 → Int32 → Int32 → Int32 → Int32 → Option (SS)) : Nat → Int32 → Int32 → Int32 → Int32 → Int32 → Int32 → SS → Option (SS)
  | 0, _, _, _, _, _, _, _ => none
  | n + 1, x1, x2, x3, x4, x5, x7, T => if (gi T 52 22) ≤ x7 then
  (some T)
  else
  (bd (fX12_has N x2 x7) fun r3 =>
  if r3 = 0 then
  (bd (fX12_isLoose N T x7) fun r7 =>
  if r7 = 0 then
  (lt (x7 + 1) fun v9 =>
  fX12_tryTales_l84 N rec n x1 x2 x3 x4 x5 v9 T)
  else
  (b2 (fX12_goesWith N T x1 x7 x4) fun T12 r11 =>
  if r11 = 0 then
  (lt (x7 + 1) fun v14 =>
  fX12_tryTales_l84 N rec n x1 x2 x3 x4 x5 v14 T12)
  else
  (ck (inb (7 + x7) 214) <|
  bd (rec T12 x7 (x2 ||| (sl 1 x7)) ((10 * x3) + x7) (x4 + 1) (x5 + (ga T12 67 (7 + x7)))) fun T17 =>
  lt (x7 + 1) fun v18 =>
  fX12_tryTales_l84 N rec n x1 x2 x3 x4 x5 v18 T17)))
  else
  (lt (x7 + 1) fun v5 =>
  fX12_tryTales_l84 N rec n x1 x2 x3 x4 x5 v5 T))
def fX12_tryTales_j64 (N : Nat) (rec : SS → Int32 → Int32 → Int32 → Int32 → Int32 → Option (SS)) (x1 : Int32) (x2 : Int32) (x3 : Int32) (x4 : Int32) (x5 : Int32) (T : SS) : Option (SS) := lt (pj T 52 31 x3) fun T1 =>
  lt (pj T1 52 32 x5) fun T2 =>
  lt (pj T2 52 33 x4) fun T3 =>
  fX12_tryTales_l84 N rec N x1 x2 x3 x4 x5 0 T3
def fX12_tryTales_j22 (N : Nat) (rec : SS → Int32 → Int32 → Int32 → Int32 → Int32 → Option (SS)) (x1 : Int32) (x2 : Int32) (x3 : Int32) (x4 : Int32) (x5 : Int32) (y0 : Int32) (T : SS) : Option (SS) := if y0 = 0 then
  (if x5 = (gi T 52 32) then
  (if x4 < (gi T 52 33) then
  (fX12_tryTales_j64 N rec x1 x2 x3 x4 x5 T)
  else
  (if x4 = (gi T 52 33) then
  (if (gi T 52 31) ≤ x3 then
  (fX12_tryTales_l84 N rec N x1 x2 x3 x4 x5 0 T)
  else
  (fX12_tryTales_j64 N rec x1 x2 x3 x4 x5 T))
  else
  (fX12_tryTales_l84 N rec N x1 x2 x3 x4 x5 0 T)))
  else
  (fX12_tryTales_l84 N rec N x1 x2 x3 x4 x5 0 T))
  else
  (fX12_tryTales_j64 N rec x1 x2 x3 x4 x5 T)
def fX12_tryTales_j17 (N : Nat) (rec : SS → Int32 → Int32 → Int32 → Int32 → Int32 → Option (SS)) (x1 : Int32) (x2 : Int32) (x3 : Int32) (x4 : Int32) (x5 : Int32) (T : SS) : Option (SS) := fX12_tryTales_j22 N rec x1 x2 x3 x4 x5 1 T
def fX12_tryTales_b (N : Nat) (rec : SS → Int32 → Int32 → Int32 → Int32 → Int32 → Option (SS)) (T : SS) (p1 : Int32) (p2 : Int32) (p3 : Int32) (p4 : Int32) (p5 : Int32) : Option (SS) := if (gi T 52 31) = (-1) then
  (fX12_tryTales_j17 N rec p1 p2 p3 p4 p5 T)
  else
  (if p5 ≤ (gi T 52 32) then
  (fX12_tryTales_j22 N rec p1 p2 p3 p4 p5 0 T)
  else
  (fX12_tryTales_j17 N rec p1 p2 p3 p4 p5 T))
def fX12_tryTales (N : Nat) : Nat → SS → Int32 → Int32 → Int32 → Int32 → Int32 → Option (SS)
  | 0, _, _, _, _, _, _ => none
  | d + 1, T, p1, p2, p3, p4, p5 => fX12_tryTales_b N (fX12_tryTales N d) T p1 p2 p3 p4 p5
set_option maxHeartbeats 4000000 in
set_option maxRecDepth 100000 in
theorem kX12_tryTales_b {l : Launch} {D : va_G} {dA : Nat → ClassId} {ad : Nat → Nat} {t1 t2 : Nat} {N : Nat} {rec : SS → Int32 → Int32 → Int32 → Int32 → Int32 → Option (SS)} {F L : Nat} (hrec : ∀ {S T : SS} {o : Nat → Int64} {p1 : Int32} {p2 : Int32} {p3 : Int32} {p4 : Int32} {p5 : Int32} {T' : SS}, rec T p1 p2 p3 p4 p5 = some T' → KV l D dA ad t1 t2 yX12_tryTales cX12_tryTales 8 { frames := F, cells := 0, slots := 0, locals := L } [.ref (ad 52), .int p1, .int p2, .int p3, .int p4, .int p5] S T o S T') {S T : SS} {o : Nat → Int64} {p1 : Int32} {p2 : Int32} {p3 : Int32} {p4 : Int32} {p5 : Int32} {T' : SS} (hR : fX12_tryTales_b N rec T p1 p2 p3 p4 p5 = some T') : KV l D dA ad t1 t2 yX12_tryTales cX12_tryTales 8 { frames := F + 7, cells := 0, slots := 0, locals := L + 157 } [.ref (ad 52), .int p1, .int p2, .int p3, .int p4, .int p5] S T o S T' := by
  intro sz
  refine en_ (plainFor_of_name (by decide)) (Nat.le_of_ble_eq_true rfl) ?_
  intro p ev s m args below meth c QQ hQ hsz X hr hlk w ls hl
  have hx := X.1
  have hb := X.2.1
  have L84 : ∀ (n : Nat), ∀ (x1 : Int32) (x2 : Int32) (x3 : Int32) (x4 : Int32) (x5 : Int32) (x7 : Int32) (T : SS), fX12_tryTales_l84 N rec n x1 x2 x3 x4 x5 x7 T = some T' → WAT p l ev ({ frames := F + 7, cells := 0, slots := 0, locals := L + 157 } : Room) s m args below meth c QQ 8 D dA ad t1 t2 S T o 84 [(0, .ref (ad 52)), (1, .int x1), (2, .int x2), (3, .int x3), (4, .int x4), (5, .int x5), (7, .int x7)] [] := by
    intro n
    induction n with
    | zero =>
      intro x1 x2 x3 x4 x5 x7 T hR
      exact nomatch hR
    | succ n ih =>
      intro x1 x2 x3 x4 x5 x7 T hR H locs ls w hl
      rw [fX12_tryTales_l84] at hR
      refine lv_iload hx hb dX12_tryTales_84 (lv_at hl 6 rfl) ?_
      refine lv_aload_n hx hb dX12_tryTales_86 rfl (lv_at hl 0 rfl) ?_
      refine gX12_ends X w lfX12_245 dX12_tryTales_87 ?_
      refine lv_icmp_ge (tgt := 165) hx hb dX12_tryTales_90 (by decide) (fun c1 => ?_) (fun c1 => ?_)
      · rw [if_pos c1] at hR
        rw [hQ]
        exact rt_v X hr hlk w hsz rfl (lf1 hR) dX12_tryTales_165
      · rw [if_neg c1] at hR
        refine lv_iload_n hx hb dX12_tryTales_93 rfl (lv_at hl 2 rfl) ?_
        refine lv_iload hx hb dX12_tryTales_94 (lv_at hl 6 rfl) ?_
        obtain ⟨r3, h2, hR⟩ := bd_e hR
        refine cSi (As := [.int x2, .int x7]) (rest := []) X hl.1 w okX12_has lmX12_219 (kX12_has h2) ⟨by show _ ≤ F + 7; dsimp only; omega, by show _ ≤ L + 157; simp only [List.map, Value.category, List.sum_cons, List.sum_nil, Nat.add_assoc]; omega⟩ ⟨rfl, rfl⟩ ⟨Nat.zero_le _, Nat.zero_le _⟩ rfl rfl (Nat.le_of_ble_eq_true rfl) dX12_tryTales_96 (fun H locs zr3 w => ?_)
        refine lv_if_ne (tgt := 159) hx hb dX12_tryTales_99 (by decide) (fun c4 => ?_) (fun c4 => ?_)
        · rw [if_neg c4] at hR
          obtain ⟨v5, ev5, hR⟩ := lt_e hR
          refine lv_iinc (v := v5) (lv' := [(7, .int v5), (0, .ref (ad 52)), (1, .int x1), (2, .int x2), (3, .int x3), (4, .int x4), (5, .int x5)]) hx hb dX12_tryTales_159 hl (k := 6) rfl (by rw [ev5]; rfl) (by decide) rfl (fun ls hl => ?_)
          refine lv_goto (tgt := 84) hx hb dX12_tryTales_162 (by decide) ?_
          exact ih x1 x2 x3 x4 x5 v5 T hR _ _ _ w (lv_sub hl [1, 2, 3, 4, 5, 6, 0] rfl)
        · rw [if_pos c4] at hR
          refine lv_aload_n hx hb dX12_tryTales_102 rfl (lv_at hl 0 rfl) ?_
          refine lv_iload hx hb dX12_tryTales_103 (lv_at hl 6 rfl) ?_
          obtain ⟨r7, h6, hR⟩ := bd_e hR
          refine cVi (k := 52) (As := [.int x7]) (rest := []) X hl.1 w okX12_isLoose obX12 rfl lmX12_329 (kX12_isLoose h6) ⟨by show _ ≤ F + 7; dsimp only; omega, by show _ ≤ L + 157; simp only [List.map, Value.category, List.sum_cons, List.sum_nil, Nat.add_assoc]; omega⟩ ⟨rfl, rfl⟩ ⟨Nat.zero_le _, Nat.zero_le _⟩ rfl rfl (Nat.le_of_ble_eq_true rfl) dX12_tryTales_105 (fun H locs zr7 w => ?_)
          refine lv_if_eq (tgt := 159) hx hb dX12_tryTales_108 (by decide) (fun c8 => ?_) (fun c8 => ?_)
          · rw [if_pos c8] at hR
            obtain ⟨v9, ev9, hR⟩ := lt_e hR
            refine lv_iinc (v := v9) (lv' := [(7, .int v9), (0, .ref (ad 52)), (1, .int x1), (2, .int x2), (3, .int x3), (4, .int x4), (5, .int x5)]) hx hb dX12_tryTales_159 hl (k := 6) rfl (by rw [ev9]; rfl) (by decide) rfl (fun ls hl => ?_)
            refine lv_goto (tgt := 84) hx hb dX12_tryTales_162 (by decide) ?_
            exact ih x1 x2 x3 x4 x5 v9 T hR _ _ _ w (lv_sub hl [1, 2, 3, 4, 5, 6, 0] rfl)
          · rw [if_neg c8] at hR
            refine lv_aload_n hx hb dX12_tryTales_111 rfl (lv_at hl 0 rfl) ?_
            refine lv_iload_n hx hb dX12_tryTales_112 rfl (lv_at hl 1 rfl) ?_
            refine lv_iload hx hb dX12_tryTales_113 (lv_at hl 6 rfl) ?_
            refine lv_iload hx hb dX12_tryTales_115 (lv_at hl 4 rfl) ?_
            obtain ⟨T12, r11, h10, hR⟩ := b2_e hR
            refine cVi (k := 52) (As := [.int x1, .int x7, .int x4]) (rest := []) X hl.1 w okX12_goesWith obX12 rfl lmX12_289 (kX12_goesWith h10) ⟨by show _ ≤ F + 7; dsimp only; omega, by show _ ≤ L + 157; simp only [List.map, Value.category, List.sum_cons, List.sum_nil, Nat.add_assoc]; omega⟩ ⟨rfl, rfl⟩ ⟨Nat.zero_le _, Nat.zero_le _⟩ rfl rfl (Nat.le_of_ble_eq_true rfl) dX12_tryTales_117 (fun H locs zr11 w => ?_)
            refine lv_if_eq (tgt := 159) hx hb dX12_tryTales_120 (by decide) (fun c13 => ?_) (fun c13 => ?_)
            · rw [if_pos c13] at hR
              obtain ⟨v14, ev14, hR⟩ := lt_e hR
              refine lv_iinc (v := v14) (lv' := [(7, .int v14), (0, .ref (ad 52)), (1, .int x1), (2, .int x2), (3, .int x3), (4, .int x4), (5, .int x5)]) hx hb dX12_tryTales_159 hl (k := 6) rfl (by rw [ev14]; rfl) (by decide) rfl (fun ls hl => ?_)
              refine lv_goto (tgt := 84) hx hb dX12_tryTales_162 (by decide) ?_
              exact ih x1 x2 x3 x4 x5 v14 T12 hR _ _ _ w (lv_sub hl [1, 2, 3, 4, 5, 6, 0] rfl)
            · rw [if_neg c13] at hR
              refine lv_aload_n hx hb dX12_tryTales_123 rfl (lv_at hl 0 rfl) ?_
              refine lv_iload hx hb dX12_tryTales_124 (lv_at hl 6 rfl) ?_
              refine lv_iload_n hx hb dX12_tryTales_126 rfl (lv_at hl 2 rfl) ?_
              refine lv_iconst (v := 1) hx hb dX12_tryTales_127 (by decide) ?_
              refine lv_iload hx hb dX12_tryTales_128 (lv_at hl 6 rfl) ?_
              refine lv_ishl hx hb dX12_tryTales_130 ?_
              refine lv_ior hx hb dX12_tryTales_131 ?_
              refine lv_bipush (v := 10) hx hb dX12_tryTales_132 (by decide) ?_
              refine lv_iload_n hx hb dX12_tryTales_134 rfl (lv_at hl 3 rfl) ?_
              refine lv_imul hx hb dX12_tryTales_135 ?_
              refine lv_iload hx hb dX12_tryTales_136 (lv_at hl 6 rfl) ?_
              refine lv_iadd hx hb dX12_tryTales_138 ?_
              refine lv_iload hx hb dX12_tryTales_139 (lv_at hl 4 rfl) ?_
              refine lv_iconst (v := 1) hx hb dX12_tryTales_141 (by decide) ?_
              refine lv_iadd hx hb dX12_tryTales_142 ?_
              refine lv_iload hx hb dX12_tryTales_143 (lv_at hl 5 rfl) ?_
              refine lv_aload_n hx hb dX12_tryTales_145 rfl (lv_at hl 0 rfl) ?_
              refine gX12_now X w lfX12_52 dX12_tryTales_146 ?_
              refine lv_bipush (v := 7) hx hb dX12_tryTales_149 (by decide) ?_
              refine lv_iload hx hb dX12_tryTales_151 (lv_at hl 6 rfl) ?_
              refine lv_iadd hx hb dX12_tryTales_153 ?_
              obtain ⟨g15, hR⟩ := ck_e hR
              refine ialT (n := 214) rfl (by decide) X w rfl g15 dX12_tryTales_154 ?_
              refine lv_iadd hx hb dX12_tryTales_155 ?_
              obtain ⟨T17, h16, hR⟩ := bd_e hR
              refine cVv (k := 52) (As := [.int x7, .int (x2 ||| (sl 1 x7)), .int ((10 * x3) + x7), .int (x4 + 1), .int (x5 + (ga T12 67 (7 + x7)))]) (rest := []) X hl.1 w okX12_tryTales obX12 rfl lmX12_374 (hrec h16) ⟨by show _ ≤ F + 7; dsimp only; omega, by show _ ≤ L + 157; simp only [List.map, Value.category, List.sum_cons, List.sum_nil, Nat.add_assoc]; omega⟩ ⟨rfl, rfl⟩ ⟨Nat.zero_le _, Nat.zero_le _⟩ rfl rfl (Nat.le_of_ble_eq_true rfl) dX12_tryTales_156 (fun H locs w => ?_)
              obtain ⟨v18, ev18, hR⟩ := lt_e hR
              refine lv_iinc (v := v18) (lv' := [(7, .int v18), (0, .ref (ad 52)), (1, .int x1), (2, .int x2), (3, .int x3), (4, .int x4), (5, .int x5)]) hx hb dX12_tryTales_159 hl (k := 6) rfl (by rw [ev18]; rfl) (by decide) rfl (fun ls hl => ?_)
              refine lv_goto (tgt := 84) hx hb dX12_tryTales_162 (by decide) ?_
              exact ih x1 x2 x3 x4 x5 v18 T17 hR _ _ _ w (lv_sub hl [1, 2, 3, 4, 5, 6, 0] rfl)
  have J64 : ∀ (x1 : Int32) (x2 : Int32) (x3 : Int32) (x4 : Int32) (x5 : Int32) (T : SS), fX12_tryTales_j64 N rec x1 x2 x3 x4 x5 T = some T' → WAT p l ev ({ frames := F + 7, cells := 0, slots := 0, locals := L + 157 } : Room) s m args below meth c QQ 8 D dA ad t1 t2 S T o 64 [(0, .ref (ad 52)), (1, .int x1), (2, .int x2), (3, .int x3), (4, .int x4), (5, .int x5)] [] := by
    intro x1 x2 x3 x4 x5 T hR H locs ls w hl
    unfold fX12_tryTales_j64 at hR
    refine lv_aload_n hx hb dX12_tryTales_64 rfl (lv_at hl 0 rfl) ?_
    refine lv_iload_n hx hb dX12_tryTales_65 rfl (lv_at hl 3 rfl) ?_
    obtain ⟨T1, eT1, hR⟩ := lt_e hR
    refine pX12_bestRow X w lfX12_358 dX12_tryTales_66 (fun H locs w => ?_)
    rw [← eT1] at w
    refine lv_aload_n hx hb dX12_tryTales_69 rfl (lv_at hl 0 rfl) ?_
    refine lv_iload hx hb dX12_tryTales_70 (lv_at hl 5 rfl) ?_
    obtain ⟨T2, eT2, hR⟩ := lt_e hR
    refine pX12_bestMany X w lfX12_361 dX12_tryTales_72 (fun H locs w => ?_)
    rw [← eT2] at w
    refine lv_aload_n hx hb dX12_tryTales_75 rfl (lv_at hl 0 rfl) ?_
    refine lv_iload hx hb dX12_tryTales_76 (lv_at hl 4 rfl) ?_
    obtain ⟨T3, eT3, hR⟩ := lt_e hR
    refine pX12_bestLong X w lfX12_371 dX12_tryTales_78 (fun H locs w => ?_)
    rw [← eT3] at w
    refine lv_iconst (v := 0) hx hb dX12_tryTales_81 (by decide) ?_
    refine lv_istore (lv' := [(7, .int 0), (0, .ref (ad 52)), (1, .int x1), (2, .int x2), (3, .int x3), (4, .int x4), (5, .int x5)]) hx hb dX12_tryTales_82 hl (by decide) rfl (fun ls hl => ?_)
    exact L84 N x1 x2 x3 x4 x5 0 T3 hR _ _ _ w (lv_sub hl [1, 2, 3, 4, 5, 6, 0] rfl)
  have J22 : ∀ (x1 : Int32) (x2 : Int32) (x3 : Int32) (x4 : Int32) (x5 : Int32) (y0 : Int32) (T : SS), fX12_tryTales_j22 N rec x1 x2 x3 x4 x5 y0 T = some T' → WAT p l ev ({ frames := F + 7, cells := 0, slots := 0, locals := L + 157 } : Room) s m args below meth c QQ 8 D dA ad t1 t2 S T o 22 [(0, .ref (ad 52)), (1, .int x1), (2, .int x2), (3, .int x3), (4, .int x4), (5, .int x5)] [.int y0] := by
    intro x1 x2 x3 x4 x5 y0 T hR H locs ls w hl
    unfold fX12_tryTales_j22 at hR
    refine lv_istore (lv' := [(6, .int y0), (0, .ref (ad 52)), (1, .int x1), (2, .int x2), (3, .int x3), (4, .int x4), (5, .int x5)]) hx hb dX12_tryTales_22 hl (by decide) rfl (fun ls hl => ?_)
    refine lv_iload hx hb dX12_tryTales_24 (lv_at hl 0 rfl) ?_
    refine lv_if_ne (tgt := 64) hx hb dX12_tryTales_26 (by decide) (fun c1 => ?_) (fun c1 => ?_)
    · rw [if_neg c1] at hR
      exact J64 x1 x2 x3 x4 x5 T hR _ _ _ w (lv_sub hl [1, 2, 3, 4, 5, 6] rfl)
    · rw [if_pos c1] at hR
      refine lv_iload hx hb dX12_tryTales_29 (lv_at hl 6 rfl) ?_
      refine lv_aload_n hx hb dX12_tryTales_31 rfl (lv_at hl 1 rfl) ?_
      refine gX12_bestMany X w lfX12_361 dX12_tryTales_32 ?_
      refine lv_icmp_ne (tgt := 81) hx hb dX12_tryTales_35 (by decide) (fun c2 => ?_) (fun c2 => ?_)
      · rw [if_neg c2] at hR
        refine lv_iconst (v := 0) hx hb dX12_tryTales_81 (by decide) ?_
        refine lv_istore (lv' := [(7, .int 0), (6, .int y0), (0, .ref (ad 52)), (1, .int x1), (2, .int x2), (3, .int x3), (4, .int x4), (5, .int x5)]) hx hb dX12_tryTales_82 hl (by decide) rfl (fun ls hl => ?_)
        exact L84 N x1 x2 x3 x4 x5 0 T hR _ _ _ w (lv_sub hl [2, 3, 4, 5, 6, 7, 0] rfl)
      · rw [if_pos c2] at hR
        refine lv_iload hx hb dX12_tryTales_38 (lv_at hl 5 rfl) ?_
        refine lv_aload_n hx hb dX12_tryTales_40 rfl (lv_at hl 1 rfl) ?_
        refine gX12_bestLong X w lfX12_371 dX12_tryTales_41 ?_
        refine lv_icmp_lt (tgt := 64) hx hb dX12_tryTales_44 (by decide) (fun c3 => ?_) (fun c3 => ?_)
        · rw [if_pos c3] at hR
          exact J64 x1 x2 x3 x4 x5 T hR _ _ _ w (lv_sub hl [1, 2, 3, 4, 5, 6] rfl)
        · rw [if_neg c3] at hR
          refine lv_iload hx hb dX12_tryTales_47 (lv_at hl 5 rfl) ?_
          refine lv_aload_n hx hb dX12_tryTales_49 rfl (lv_at hl 1 rfl) ?_
          refine gX12_bestLong X w lfX12_371 dX12_tryTales_50 ?_
          refine lv_icmp_ne (tgt := 81) hx hb dX12_tryTales_53 (by decide) (fun c4 => ?_) (fun c4 => ?_)
          · rw [if_neg c4] at hR
            refine lv_iconst (v := 0) hx hb dX12_tryTales_81 (by decide) ?_
            refine lv_istore (lv' := [(7, .int 0), (6, .int y0), (0, .ref (ad 52)), (1, .int x1), (2, .int x2), (3, .int x3), (4, .int x4), (5, .int x5)]) hx hb dX12_tryTales_82 hl (by decide) rfl (fun ls hl => ?_)
            exact L84 N x1 x2 x3 x4 x5 0 T hR _ _ _ w (lv_sub hl [2, 3, 4, 5, 6, 7, 0] rfl)
          · rw [if_pos c4] at hR
            refine lv_iload_n hx hb dX12_tryTales_56 rfl (lv_at hl 4 rfl) ?_
            refine lv_aload_n hx hb dX12_tryTales_57 rfl (lv_at hl 1 rfl) ?_
            refine gX12_bestRow X w lfX12_358 dX12_tryTales_58 ?_
            refine lv_icmp_ge (tgt := 81) hx hb dX12_tryTales_61 (by decide) (fun c5 => ?_) (fun c5 => ?_)
            · rw [if_pos c5] at hR
              refine lv_iconst (v := 0) hx hb dX12_tryTales_81 (by decide) ?_
              refine lv_istore (lv' := [(7, .int 0), (6, .int y0), (0, .ref (ad 52)), (1, .int x1), (2, .int x2), (3, .int x3), (4, .int x4), (5, .int x5)]) hx hb dX12_tryTales_82 hl (by decide) rfl (fun ls hl => ?_)
              exact L84 N x1 x2 x3 x4 x5 0 T hR _ _ _ w (lv_sub hl [2, 3, 4, 5, 6, 7, 0] rfl)
            · rw [if_neg c5] at hR
              exact J64 x1 x2 x3 x4 x5 T hR _ _ _ w (lv_sub hl [1, 2, 3, 4, 5, 6] rfl)
  have J17 : ∀ (x1 : Int32) (x2 : Int32) (x3 : Int32) (x4 : Int32) (x5 : Int32) (T : SS), fX12_tryTales_j17 N rec x1 x2 x3 x4 x5 T = some T' → WAT p l ev ({ frames := F + 7, cells := 0, slots := 0, locals := L + 157 } : Room) s m args below meth c QQ 8 D dA ad t1 t2 S T o 17 [(0, .ref (ad 52)), (1, .int x1), (2, .int x2), (3, .int x3), (4, .int x4), (5, .int x5)] [] := by
    intro x1 x2 x3 x4 x5 T hR H locs ls w hl
    unfold fX12_tryTales_j17 at hR
    refine lv_iconst (v := 1) hx hb dX12_tryTales_17 (by decide) ?_
    refine lv_goto (tgt := 22) hx hb dX12_tryTales_18 (by decide) ?_
    exact J22 x1 x2 x3 x4 x5 1 T hR _ _ _ w (lv_sub hl [0, 1, 2, 3, 4, 5] rfl)
  have hl : lv_has ls 8 [(0, .ref (ad 52)), (1, .int p1), (2, .int p2), (3, .int p3), (4, .int p4), (5, .int p5)] := hl
  unfold fX12_tryTales_b at hR
  refine lv_aload_n hx hb dX12_tryTales_0 rfl (lv_at hl 0 rfl) ?_
  refine gX12_bestRow X w lfX12_358 dX12_tryTales_1 ?_
  refine lv_iconst (v := -1) hx hb dX12_tryTales_4 (by decide) ?_
  refine lv_icmp_eq (tgt := 17) hx hb dX12_tryTales_5 (by decide) (fun c1 => ?_) (fun c1 => ?_)
  · rw [if_pos c1] at hR
    exact J17 p1 p2 p3 p4 p5 T hR _ _ _ w (lv_sub hl [0, 1, 2, 3, 4, 5] rfl)
  · rw [if_neg c1] at hR
    refine lv_iload hx hb dX12_tryTales_8 (lv_at hl 5 rfl) ?_
    refine lv_aload_n hx hb dX12_tryTales_10 rfl (lv_at hl 0 rfl) ?_
    refine gX12_bestMany X w lfX12_361 dX12_tryTales_11 ?_
    refine lv_icmp_le (tgt := 21) hx hb dX12_tryTales_14 (by decide) (fun c2 => ?_) (fun c2 => ?_)
    · rw [if_pos c2] at hR
      refine lv_iconst (v := 0) hx hb dX12_tryTales_21 (by decide) ?_
      exact J22 p1 p2 p3 p4 p5 0 T hR _ _ _ w (lv_sub hl [0, 1, 2, 3, 4, 5] rfl)
    · rw [if_neg c2] at hR
      exact J17 p1 p2 p3 p4 p5 T hR _ _ _ w (lv_sub hl [0, 1, 2, 3, 4, 5] rfl)
theorem kX12_tryTales {l : Launch} {D : va_G} {dA : Nat → ClassId} {ad : Nat → Nat} {t1 t2 : Nat} {N : Nat} (d : Nat) : ∀ {S T : SS} {o : Nat → Int64} {p1 : Int32} {p2 : Int32} {p3 : Int32} {p4 : Int32} {p5 : Int32} {T' : SS}, fX12_tryTales N d T p1 p2 p3 p4 p5 = some T' → KV l D dA ad t1 t2 yX12_tryTales cX12_tryTales 8 { frames := 7 * d, cells := 0, slots := 0, locals := 157 * d } [.ref (ad 52), .int p1, .int p2, .int p3, .int p4, .int p5] S T o S T' := by
  induction d with
  | zero =>
    intro S T o p1 p2 p3 p4 p5 T' hR
    exact nomatch hR
  | succ d ih =>
    intro S T o p1 p2 p3 p4 p5 T' hR
    exact kX12_tryTales_b ih hR
/- LooseEndsModel.tale(I)I -/
def fX12_tale_l30 (N : Nat) : Nat → Int32 → Int32 → SS → Option (SS × Int32)
  | 0, _, _, _ => none
  | n + 1, x1, x2, T => if (gi T 52 22) ≤ x2 then
  (if x1 = 0 then
  (some (T, gi T 52 31))
  else
  (some (T, gi T 52 32)))
  else
  (bd (fX12_isLoose N T x2) fun r4 =>
  if r4 = 0 then
  (lt (x2 + 1) fun v6 =>
  fX12_tale_l30 N n x1 v6 T)
  else
  (ck (inb (7 + x2) 214) <|
  bd (fX12_tryTales N 10 T x2 (sl 1 x2) x2 1 (ga T 67 (7 + x2))) fun T9 =>
  lt (x2 + 1) fun v10 =>
  fX12_tale_l30 N n x1 v10 T9))
def fX12_tale (N : Nat) (T : SS) (p1 : Int32) : Option (SS × Int32) := if (gi T 52 22) = 0 then
  (some (T, (-1)))
  else
  (bd (fX12_in N p1 0 1) fun r3 =>
  if r3 = 0 then
  (some (T, (-1)))
  else
  (lt (pj T 52 31 (-1)) fun T5 =>
  lt (pj T5 52 32 0) fun T6 =>
  fX12_tale_l30 N N p1 0 T6))
set_option maxHeartbeats 4000000 in
set_option maxRecDepth 100000 in
theorem kX12_tale {l : Launch} {D : va_G} {dA : Nat → ClassId} {ad : Nat → Nat} {t1 t2 : Nat} {N : Nat} {S T : SS} {o : Nat → Int64} {p1 : Int32} {r : Int32} {T' : SS} (hR : fX12_tale N T p1 = some (T', r)) : KI l D dA ad t1 t2 yX12_tale cX12_tale 3 .int { frames := 71, cells := 0, slots := 0, locals := 1597 } [.ref (ad 52), .int p1] S T o r S T' := by
  intro sz
  refine en_ (plainFor_of_name (by decide)) (Nat.le_of_ble_eq_true rfl) ?_
  intro p ev s m args below meth c QQ hQ hsz X hr hlk w ls hl
  have hx := X.1
  have hb := X.2.1
  have L30 : ∀ (n : Nat), ∀ (x1 : Int32) (x2 : Int32) (T : SS), fX12_tale_l30 N n x1 x2 T = some (T', r) → WAT p l ev ({ frames := 71, cells := 0, slots := 0, locals := 1597 } : Room) s m args below meth c QQ 3 D dA ad t1 t2 S T o 30 [(0, .ref (ad 52)), (1, .int x1), (2, .int x2)] [] := by
    intro n
    induction n with
    | zero =>
      intro x1 x2 T hR
      exact nomatch hR
    | succ n ih =>
      intro x1 x2 T hR H locs ls w hl
      rw [fX12_tale_l30] at hR
      refine lv_iload_n hx hb dX12_tale_30 rfl (lv_at hl 2 rfl) ?_
      refine lv_aload_n hx hb dX12_tale_31 rfl (lv_at hl 0 rfl) ?_
      refine gX12_ends X w lfX12_245 dX12_tale_32 ?_
      refine lv_icmp_ge (tgt := 71) hx hb dX12_tale_35 (by decide) (fun c1 => ?_) (fun c1 => ?_)
      · rw [if_pos c1] at hR
        refine lv_iload_n hx hb dX12_tale_71 rfl (lv_at hl 1 rfl) ?_
        refine lv_if_ne (tgt := 82) hx hb dX12_tale_72 (by decide) (fun c2 => ?_) (fun c2 => ?_)
        · rw [if_neg c2] at hR
          refine lv_aload_n hx hb dX12_tale_82 rfl (lv_at hl 0 rfl) ?_
          refine gX12_bestMany X w lfX12_361 dX12_tale_83 ?_
          rw [hQ]
          exact rt_i X hr hlk w hsz rfl rfl (lf2 hR).1 (lf2 hR).2 dX12_tale_86
        · rw [if_pos c2] at hR
          refine lv_aload_n hx hb dX12_tale_75 rfl (lv_at hl 0 rfl) ?_
          refine gX12_bestRow X w lfX12_358 dX12_tale_76 ?_
          refine lv_goto (tgt := 86) hx hb dX12_tale_79 (by decide) ?_
          rw [hQ]
          exact rt_i X hr hlk w hsz rfl rfl (lf2 hR).1 (lf2 hR).2 dX12_tale_86
      · rw [if_neg c1] at hR
        refine lv_aload_n hx hb dX12_tale_38 rfl (lv_at hl 0 rfl) ?_
        refine lv_iload_n hx hb dX12_tale_39 rfl (lv_at hl 2 rfl) ?_
        obtain ⟨r4, h3, hR⟩ := bd_e hR
        refine cVi (k := 52) (As := [.int x2]) (rest := []) X hl.1 w okX12_isLoose obX12 rfl lmX12_329 (kX12_isLoose h3) ⟨Nat.le_of_ble_eq_true rfl, Nat.le_of_ble_eq_true rfl⟩ ⟨rfl, rfl⟩ ⟨Nat.zero_le _, Nat.zero_le _⟩ rfl rfl (Nat.le_of_ble_eq_true rfl) dX12_tale_40 (fun H locs zr4 w => ?_)
        refine lv_if_eq (tgt := 65) hx hb dX12_tale_43 (by decide) (fun c5 => ?_) (fun c5 => ?_)
        · rw [if_pos c5] at hR
          obtain ⟨v6, ev6, hR⟩ := lt_e hR
          refine lv_iinc (v := v6) (lv' := [(2, .int v6), (0, .ref (ad 52)), (1, .int x1)]) hx hb dX12_tale_65 hl (k := 2) rfl (by rw [ev6]; rfl) (by decide) rfl (fun ls hl => ?_)
          refine lv_goto (tgt := 30) hx hb dX12_tale_68 (by decide) ?_
          exact ih x1 v6 T hR _ _ _ w (lv_sub hl [1, 2, 0] rfl)
        · rw [if_neg c5] at hR
          refine lv_aload_n hx hb dX12_tale_46 rfl (lv_at hl 0 rfl) ?_
          refine lv_iload_n hx hb dX12_tale_47 rfl (lv_at hl 2 rfl) ?_
          refine lv_iconst (v := 1) hx hb dX12_tale_48 (by decide) ?_
          refine lv_iload_n hx hb dX12_tale_49 rfl (lv_at hl 2 rfl) ?_
          refine lv_ishl hx hb dX12_tale_50 ?_
          refine lv_iload_n hx hb dX12_tale_51 rfl (lv_at hl 2 rfl) ?_
          refine lv_iconst (v := 1) hx hb dX12_tale_52 (by decide) ?_
          refine lv_aload_n hx hb dX12_tale_53 rfl (lv_at hl 0 rfl) ?_
          refine gX12_now X w lfX12_52 dX12_tale_54 ?_
          refine lv_bipush (v := 7) hx hb dX12_tale_57 (by decide) ?_
          refine lv_iload_n hx hb dX12_tale_59 rfl (lv_at hl 2 rfl) ?_
          refine lv_iadd hx hb dX12_tale_60 ?_
          obtain ⟨g7, hR⟩ := ck_e hR
          refine ialT (n := 214) rfl (by decide) X w rfl g7 dX12_tale_61 ?_
          obtain ⟨T9, h8, hR⟩ := bd_e hR
          refine cVv (k := 52) (As := [.int x2, .int (sl 1 x2), .int x2, .int 1, .int (ga T 67 (7 + x2))]) (rest := []) X hl.1 w okX12_tryTales obX12 rfl lmX12_374 (kX12_tryTales 10 h8) ⟨Nat.le_of_ble_eq_true rfl, Nat.le_of_ble_eq_true rfl⟩ ⟨rfl, rfl⟩ ⟨Nat.zero_le _, Nat.zero_le _⟩ rfl rfl (Nat.le_of_ble_eq_true rfl) dX12_tale_62 (fun H locs w => ?_)
          obtain ⟨v10, ev10, hR⟩ := lt_e hR
          refine lv_iinc (v := v10) (lv' := [(2, .int v10), (0, .ref (ad 52)), (1, .int x1)]) hx hb dX12_tale_65 hl (k := 2) rfl (by rw [ev10]; rfl) (by decide) rfl (fun ls hl => ?_)
          refine lv_goto (tgt := 30) hx hb dX12_tale_68 (by decide) ?_
          exact ih x1 v10 T9 hR _ _ _ w (lv_sub hl [1, 2, 0] rfl)
  have hl : lv_has ls 3 [(0, .ref (ad 52)), (1, .int p1)] := hl
  unfold fX12_tale at hR
  refine lv_aload_n hx hb dX12_tale_0 rfl (lv_at hl 0 rfl) ?_
  refine gX12_ends X w lfX12_245 dX12_tale_1 ?_
  refine lv_if_eq (tgt := 16) hx hb dX12_tale_4 (by decide) (fun c1 => ?_) (fun c1 => ?_)
  · rw [if_pos c1] at hR
    refine lv_iconst (v := -1) hx hb dX12_tale_16 (by decide) ?_
    rw [hQ]
    exact rt_i X hr hlk w hsz rfl rfl (lf2 hR).1 (lf2 hR).2 dX12_tale_17
  · rw [if_neg c1] at hR
    refine lv_iload_n hx hb dX12_tale_7 rfl (lv_at hl 1 rfl) ?_
    refine lv_iconst (v := 0) hx hb dX12_tale_8 (by decide) ?_
    refine lv_iconst (v := 1) hx hb dX12_tale_9 (by decide) ?_
    obtain ⟨r3, h2, hR⟩ := bd_e hR
    refine cSi (As := [.int p1, .int 0, .int 1]) (rest := []) X hl.1 w okX12_in lmX12_208 (kX12_in h2) ⟨Nat.le_of_ble_eq_true rfl, Nat.le_of_ble_eq_true rfl⟩ ⟨rfl, rfl⟩ ⟨Nat.zero_le _, Nat.zero_le _⟩ rfl rfl (Nat.le_of_ble_eq_true rfl) dX12_tale_10 (fun H locs zr3 w => ?_)
    refine lv_if_ne (tgt := 18) hx hb dX12_tale_13 (by decide) (fun c4 => ?_) (fun c4 => ?_)
    · rw [if_neg c4] at hR
      refine lv_aload_n hx hb dX12_tale_18 rfl (lv_at hl 0 rfl) ?_
      refine lv_iconst (v := -1) hx hb dX12_tale_19 (by decide) ?_
      obtain ⟨T5, eT5, hR⟩ := lt_e hR
      refine pX12_bestRow X w lfX12_358 dX12_tale_20 (fun H locs w => ?_)
      rw [← eT5] at w
      refine lv_aload_n hx hb dX12_tale_23 rfl (lv_at hl 0 rfl) ?_
      refine lv_iconst (v := 0) hx hb dX12_tale_24 (by decide) ?_
      obtain ⟨T6, eT6, hR⟩ := lt_e hR
      refine pX12_bestMany X w lfX12_361 dX12_tale_25 (fun H locs w => ?_)
      rw [← eT6] at w
      refine lv_iconst (v := 0) hx hb dX12_tale_28 (by decide) ?_
      refine lv_istore_n (lv' := [(2, .int 0), (0, .ref (ad 52)), (1, .int p1)]) hx hb dX12_tale_29 rfl hl (by decide) rfl (fun ls hl => ?_)
      exact L30 N p1 0 T6 hR _ _ _ w (lv_sub hl [1, 2, 0] rfl)
    · rw [if_pos c4] at hR
      refine lv_iconst (v := -1) hx hb dX12_tale_16 (by decide) ?_
      rw [hQ]
      exact rt_i X hr hlk w hsz rfl rfl (lf2 hR).1 (lf2 hR).2 dX12_tale_17
/- LooseEndsModel.putAside(I)V -/
def fX12_putAside_l2 (N : Nat) : Nat → Int32 → Int32 → SS → Option (SS)
  | 0, _, _, _ => none
  | n + 1, x1, x2, T => if 33 ≤ x2 then
  (some T)
  else
  (ck (inb x2 214) <|
  ck (inb ((33 * x1) + x2) 99) <|
  lt (pa T 71 ((33 * x1) + x2) (ga T 67 x2)) fun T4 =>
  lt (x2 + 1) fun v5 =>
  fX12_putAside_l2 N n x1 v5 T4)
def fX12_putAside (N : Nat) (T : SS) (p1 : Int32) : Option (SS) := fX12_putAside_l2 N N p1 0 T
set_option maxHeartbeats 4000000 in
set_option maxRecDepth 100000 in
theorem kX12_putAside {l : Launch} {D : va_G} {dA : Nat → ClassId} {ad : Nat → Nat} {t1 t2 : Nat} {N : Nat} {S T : SS} {o : Nat → Int64} {p1 : Int32} {T' : SS} (hR : fX12_putAside N T p1 = some T') : KV l D dA ad t1 t2 yX12_putAside cX12_putAside 3 { frames := 0, cells := 0, slots := 0, locals := 0 } [.ref (ad 52), .int p1] S T o S T' := by
  intro sz
  refine en_ (plainFor_of_name (by decide)) (Nat.le_of_ble_eq_true rfl) ?_
  intro p ev s m args below meth c QQ hQ hsz X hr hlk w ls hl
  have hx := X.1
  have hb := X.2.1
  have L2 : ∀ (n : Nat), ∀ (x1 : Int32) (x2 : Int32) (T : SS), fX12_putAside_l2 N n x1 x2 T = some T' → WAT p l ev ({ frames := 0, cells := 0, slots := 0, locals := 0 } : Room) s m args below meth c QQ 3 D dA ad t1 t2 S T o 2 [(0, .ref (ad 52)), (1, .int x1), (2, .int x2)] [] := by
    intro n
    induction n with
    | zero =>
      intro x1 x2 T hR
      exact nomatch hR
    | succ n ih =>
      intro x1 x2 T hR H locs ls w hl
      rw [fX12_putAside_l2] at hR
      refine lv_iload_n hx hb dX12_putAside_2 rfl (lv_at hl 2 rfl) ?_
      refine lv_bipush (v := 33) hx hb dX12_putAside_3 (by decide) ?_
      refine lv_icmp_ge (tgt := 31) hx hb dX12_putAside_5 (by decide) (fun c1 => ?_) (fun c1 => ?_)
      · rw [if_pos c1] at hR
        rw [hQ]
        exact rt_v X hr hlk w hsz rfl (lf1 hR) dX12_putAside_31
      · rw [if_neg c1] at hR
        refine lv_aload_n hx hb dX12_putAside_8 rfl (lv_at hl 0 rfl) ?_
        refine gX12_aside X w lfX12_71 dX12_putAside_9 ?_
        refine lv_bipush (v := 33) hx hb dX12_putAside_12 (by decide) ?_
        refine lv_iload_n hx hb dX12_putAside_14 rfl (lv_at hl 1 rfl) ?_
        refine lv_imul hx hb dX12_putAside_15 ?_
        refine lv_iload_n hx hb dX12_putAside_16 rfl (lv_at hl 2 rfl) ?_
        refine lv_iadd hx hb dX12_putAside_17 ?_
        refine lv_aload_n hx hb dX12_putAside_18 rfl (lv_at hl 0 rfl) ?_
        refine gX12_now X w lfX12_52 dX12_putAside_19 ?_
        refine lv_iload_n hx hb dX12_putAside_22 rfl (lv_at hl 2 rfl) ?_
        obtain ⟨g2, hR⟩ := ck_e hR
        refine ialT (n := 214) rfl (by decide) X w rfl g2 dX12_putAside_23 ?_
        obtain ⟨g3, hR⟩ := ck_e hR
        obtain ⟨T4, eT4, hR⟩ := lt_e hR
        refine iasT (n := 99) rfl (by decide) X w rfl g3 dX12_putAside_24 (fun H locs w => ?_)
        rw [← eT4] at w
        obtain ⟨v5, ev5, hR⟩ := lt_e hR
        refine lv_iinc (v := v5) (lv' := [(2, .int v5), (0, .ref (ad 52)), (1, .int x1)]) hx hb dX12_putAside_25 hl (k := 2) rfl (by rw [ev5]; rfl) (by decide) rfl (fun ls hl => ?_)
        refine lv_goto (tgt := 2) hx hb dX12_putAside_28 (by decide) ?_
        exact ih x1 v5 T4 hR _ _ _ w (lv_sub hl [1, 2, 0] rfl)
  have hl : lv_has ls 3 [(0, .ref (ad 52)), (1, .int p1)] := hl
  unfold fX12_putAside at hR
  refine lv_iconst (v := 0) hx hb dX12_putAside_0 (by decide) ?_
  refine lv_istore_n (lv' := [(2, .int 0), (0, .ref (ad 52)), (1, .int p1)]) hx hb dX12_putAside_1 rfl hl (by decide) rfl (fun ls hl => ?_)
  exact L2 N p1 0 T hR _ _ _ w (lv_sub hl [1, 2, 0] rfl)
/- LooseEndsModel.takeBack(I)V -/
def fX12_takeBack_l2 (N : Nat) : Nat → Int32 → Int32 → SS → Option (SS)
  | 0, _, _, _ => none
  | n + 1, x1, x2, T => if 33 ≤ x2 then
  (some T)
  else
  (ck (inb ((33 * x1) + x2) 99) <|
  ck (inb x2 214) <|
  lt (pa T 67 x2 (ga T 71 ((33 * x1) + x2))) fun T4 =>
  lt (x2 + 1) fun v5 =>
  fX12_takeBack_l2 N n x1 v5 T4)
def fX12_takeBack (N : Nat) (T : SS) (p1 : Int32) : Option (SS) := fX12_takeBack_l2 N N p1 0 T
set_option maxHeartbeats 4000000 in
set_option maxRecDepth 100000 in
theorem kX12_takeBack {l : Launch} {D : va_G} {dA : Nat → ClassId} {ad : Nat → Nat} {t1 t2 : Nat} {N : Nat} {S T : SS} {o : Nat → Int64} {p1 : Int32} {T' : SS} (hR : fX12_takeBack N T p1 = some T') : KV l D dA ad t1 t2 yX12_takeBack cX12_takeBack 3 { frames := 0, cells := 0, slots := 0, locals := 0 } [.ref (ad 52), .int p1] S T o S T' := by
  intro sz
  refine en_ (plainFor_of_name (by decide)) (Nat.le_of_ble_eq_true rfl) ?_
  intro p ev s m args below meth c QQ hQ hsz X hr hlk w ls hl
  have hx := X.1
  have hb := X.2.1
  have L2 : ∀ (n : Nat), ∀ (x1 : Int32) (x2 : Int32) (T : SS), fX12_takeBack_l2 N n x1 x2 T = some T' → WAT p l ev ({ frames := 0, cells := 0, slots := 0, locals := 0 } : Room) s m args below meth c QQ 3 D dA ad t1 t2 S T o 2 [(0, .ref (ad 52)), (1, .int x1), (2, .int x2)] [] := by
    intro n
    induction n with
    | zero =>
      intro x1 x2 T hR
      exact nomatch hR
    | succ n ih =>
      intro x1 x2 T hR H locs ls w hl
      rw [fX12_takeBack_l2] at hR
      refine lv_iload_n hx hb dX12_takeBack_2 rfl (lv_at hl 2 rfl) ?_
      refine lv_bipush (v := 33) hx hb dX12_takeBack_3 (by decide) ?_
      refine lv_icmp_ge (tgt := 31) hx hb dX12_takeBack_5 (by decide) (fun c1 => ?_) (fun c1 => ?_)
      · rw [if_pos c1] at hR
        rw [hQ]
        exact rt_v X hr hlk w hsz rfl (lf1 hR) dX12_takeBack_31
      · rw [if_neg c1] at hR
        refine lv_aload_n hx hb dX12_takeBack_8 rfl (lv_at hl 0 rfl) ?_
        refine gX12_now X w lfX12_52 dX12_takeBack_9 ?_
        refine lv_iload_n hx hb dX12_takeBack_12 rfl (lv_at hl 2 rfl) ?_
        refine lv_aload_n hx hb dX12_takeBack_13 rfl (lv_at hl 0 rfl) ?_
        refine gX12_aside X w lfX12_71 dX12_takeBack_14 ?_
        refine lv_bipush (v := 33) hx hb dX12_takeBack_17 (by decide) ?_
        refine lv_iload_n hx hb dX12_takeBack_19 rfl (lv_at hl 1 rfl) ?_
        refine lv_imul hx hb dX12_takeBack_20 ?_
        refine lv_iload_n hx hb dX12_takeBack_21 rfl (lv_at hl 2 rfl) ?_
        refine lv_iadd hx hb dX12_takeBack_22 ?_
        obtain ⟨g2, hR⟩ := ck_e hR
        refine ialT (n := 99) rfl (by decide) X w rfl g2 dX12_takeBack_23 ?_
        obtain ⟨g3, hR⟩ := ck_e hR
        obtain ⟨T4, eT4, hR⟩ := lt_e hR
        refine iasT (n := 214) rfl (by decide) X w rfl g3 dX12_takeBack_24 (fun H locs w => ?_)
        rw [← eT4] at w
        obtain ⟨v5, ev5, hR⟩ := lt_e hR
        refine lv_iinc (v := v5) (lv' := [(2, .int v5), (0, .ref (ad 52)), (1, .int x1)]) hx hb dX12_takeBack_25 hl (k := 2) rfl (by rw [ev5]; rfl) (by decide) rfl (fun ls hl => ?_)
        refine lv_goto (tgt := 2) hx hb dX12_takeBack_28 (by decide) ?_
        exact ih x1 v5 T4 hR _ _ _ w (lv_sub hl [1, 2, 0] rfl)
  have hl : lv_has ls 3 [(0, .ref (ad 52)), (1, .int p1)] := hl
  unfold fX12_takeBack at hR
  refine lv_iconst (v := 0) hx hb dX12_takeBack_0 (by decide) ?_
  refine lv_istore_n (lv' := [(2, .int 0), (0, .ref (ad 52)), (1, .int p1)]) hx hb dX12_takeBack_1 rfl hl (by decide) rfl (fun ls hl => ?_)
  exact L2 N p1 0 T hR _ _ _ w (lv_sub hl [1, 2, 0] rfl)
/- LooseEndsModel.tryPlan(IIII)V -/
def fX12_tryPlan_j122 (N : Nat) (rec : SS → Int32 → Int32 → Int32 → Int32 → Option (SS)) (x1 : Int32) (x3 : Int32) (x4 : Int32) (x5 : Int32) (T : SS) : Option (SS) := if x5 = 0 then
  (some T)
  else
  (bd (fX12_isBetter N T x4 x3) fun r3 =>
  if r3 = 0 then
  (some T)
  else
  (lt (pj T 52 31 x3) fun T5 =>
  lt (pj T5 52 32 x4) fun T6 =>
  lt (pj T6 52 33 x1) fun T7 =>
  some T7))
def fX12_tryPlan_l11 (N : Nat) (rec : SS → Int32 → Int32 → Int32 → Int32 → Option (SS)) : Nat → Int32 → Int32 → Int32 → Int32 → Int32 → Int32 → SS → Option (SS)
  | 0, _, _, _, _, _, _, _ => none
  | n + 1, x1, x2, x3, x4, x5, x6, T => if ((gi T 52 22) * (gi T 52 22)) ≤ x6 then
  (fX12_tryPlan_j122 N rec x1 x3 x4 x5 T)
  else
  (if x2 ≤ 0 then
  (fX12_tryPlan_j122 N rec x1 x3 x4 x5 T)
  else
  (ck (decide (¬ (gi T 52 22) = 0)) <|
  ck (decide (¬ (gi T 52 22) = 0)) <|
  bd (fX12_mayTry N T (x6 / (gi T 52 22)) (ir x6 (gi T 52 22))) fun r6 =>
  if r6 = 0 then
  (lt (x6 + 1) fun v8 =>
  fX12_tryPlan_l11 N rec n x1 x2 x3 x4 x5 v8 T)
  else
  (ck (decide (¬ (gi T 52 22) = 0)) <|
  ck (decide (¬ (gi T 52 22) = 0)) <|
  b2 (fX12_tryNow N T (x6 / (gi T 52 22)) (ir x6 (gi T 52 22))) fun T13 r12 =>
  ck (decide (¬ (gi T13 52 22) = 0)) <|
  ck (decide (¬ (gi T13 52 22) = 0)) <|
  bd (rec T13 (x1 + 1) (x2 - 1) (((100 * x3) + (10 * (x6 / (gi T13 52 22)))) + (ir x6 (gi T13 52 22))) (x4 + r12)) fun T17 =>
  bd (fX12_takeBack N T17 x1) fun T19 =>
  lt (x6 + 1) fun v20 =>
  fX12_tryPlan_l11 N rec n x1 x2 x3 x4 0 v20 T19)))
def fX12_tryPlan_b (N : Nat) (rec : SS → Int32 → Int32 → Int32 → Int32 → Option (SS)) (T : SS) (p1 : Int32) (p2 : Int32) (p3 : Int32) (p4 : Int32) : Option (SS) := bd (fX12_putAside N T p1) fun T2 =>
  fX12_tryPlan_l11 N rec N p1 p2 p3 p4 1 0 T2
def fX12_tryPlan (N : Nat) : Nat → SS → Int32 → Int32 → Int32 → Int32 → Option (SS)
  | 0, _, _, _, _, _ => none
  | d + 1, T, p1, p2, p3, p4 => fX12_tryPlan_b N (fX12_tryPlan N d) T p1 p2 p3 p4
set_option maxHeartbeats 4000000 in
set_option maxRecDepth 100000 in
theorem kX12_tryPlan_b {l : Launch} {D : va_G} {dA : Nat → ClassId} {ad : Nat → Nat} {t1 t2 : Nat} {N : Nat} {rec : SS → Int32 → Int32 → Int32 → Int32 → Option (SS)} {F L : Nat} (hrec : ∀ {S T : SS} {o : Nat → Int64} {p1 : Int32} {p2 : Int32} {p3 : Int32} {p4 : Int32} {T' : SS}, rec T p1 p2 p3 p4 = some T' → KV l D dA ad t1 t2 yX12_tryPlan cX12_tryPlan 8 { frames := F, cells := 0, slots := 0, locals := L } [.ref (ad 52), .int p1, .int p2, .int p3, .int p4] S T o S T') {S T : SS} {o : Nat → Int64} {p1 : Int32} {p2 : Int32} {p3 : Int32} {p4 : Int32} {T' : SS} (hR : fX12_tryPlan_b N rec T p1 p2 p3 p4 = some T') : KV l D dA ad t1 t2 yX12_tryPlan cX12_tryPlan 8 { frames := F + 9, cells := 0, slots := 0, locals := L + 202 } [.ref (ad 52), .int p1, .int p2, .int p3, .int p4] S T o S T' := by
  intro sz
  refine en_ (plainFor_of_name (by decide)) (Nat.le_of_ble_eq_true rfl) ?_
  intro p ev s m args below meth c QQ hQ hsz X hr hlk w ls hl
  have hx := X.1
  have hb := X.2.1
  have J122 : ∀ (x1 : Int32) (x3 : Int32) (x4 : Int32) (x5 : Int32) (T : SS), fX12_tryPlan_j122 N rec x1 x3 x4 x5 T = some T' → WAT p l ev ({ frames := F + 9, cells := 0, slots := 0, locals := L + 202 } : Room) s m args below meth c QQ 8 D dA ad t1 t2 S T o 122 [(0, .ref (ad 52)), (1, .int x1), (3, .int x3), (4, .int x4), (5, .int x5)] [] := by
    intro x1 x3 x4 x5 T hR H locs ls w hl
    unfold fX12_tryPlan_j122 at hR
    refine lv_iload hx hb dX12_tryPlan_122 (lv_at hl 4 rfl) ?_
    refine lv_if_eq (tgt := 153) hx hb dX12_tryPlan_124 (by decide) (fun c1 => ?_) (fun c1 => ?_)
    · rw [if_pos c1] at hR
      rw [hQ]
      exact rt_v X hr hlk w hsz rfl (lf1 hR) dX12_tryPlan_153
    · rw [if_neg c1] at hR
      refine lv_aload_n hx hb dX12_tryPlan_127 rfl (lv_at hl 0 rfl) ?_
      refine lv_iload hx hb dX12_tryPlan_128 (lv_at hl 3 rfl) ?_
      refine lv_iload_n hx hb dX12_tryPlan_130 rfl (lv_at hl 2 rfl) ?_
      obtain ⟨r3, h2, hR⟩ := bd_e hR
      refine cVi (k := 52) (As := [.int x4, .int x3]) (rest := []) X hl.1 w okX12_isBetter obX12 rfl lmX12_364 (kX12_isBetter h2) ⟨by show _ ≤ F + 9; dsimp only; omega, by show _ ≤ L + 202; simp only [List.map, Value.category, List.sum_cons, List.sum_nil, Nat.add_assoc]; omega⟩ ⟨rfl, rfl⟩ ⟨Nat.zero_le _, Nat.zero_le _⟩ rfl rfl (Nat.le_of_ble_eq_true rfl) dX12_tryPlan_131 (fun H locs zr3 w => ?_)
      refine lv_if_eq (tgt := 153) hx hb dX12_tryPlan_134 (by decide) (fun c4 => ?_) (fun c4 => ?_)
      · rw [if_pos c4] at hR
        rw [hQ]
        exact rt_v X hr hlk w hsz rfl (lf1 hR) dX12_tryPlan_153
      · rw [if_neg c4] at hR
        refine lv_aload_n hx hb dX12_tryPlan_137 rfl (lv_at hl 0 rfl) ?_
        refine lv_iload_n hx hb dX12_tryPlan_138 rfl (lv_at hl 2 rfl) ?_
        obtain ⟨T5, eT5, hR⟩ := lt_e hR
        refine pX12_bestRow X w lfX12_358 dX12_tryPlan_139 (fun H locs w => ?_)
        rw [← eT5] at w
        refine lv_aload_n hx hb dX12_tryPlan_142 rfl (lv_at hl 0 rfl) ?_
        refine lv_iload hx hb dX12_tryPlan_143 (lv_at hl 3 rfl) ?_
        obtain ⟨T6, eT6, hR⟩ := lt_e hR
        refine pX12_bestMany X w lfX12_361 dX12_tryPlan_145 (fun H locs w => ?_)
        rw [← eT6] at w
        refine lv_aload_n hx hb dX12_tryPlan_148 rfl (lv_at hl 0 rfl) ?_
        refine lv_iload_n hx hb dX12_tryPlan_149 rfl (lv_at hl 1 rfl) ?_
        obtain ⟨T7, eT7, hR⟩ := lt_e hR
        refine pX12_bestLong X w lfX12_371 dX12_tryPlan_150 (fun H locs w => ?_)
        rw [← eT7] at w
        rw [hQ]
        exact rt_v X hr hlk w hsz rfl (lf1 hR) dX12_tryPlan_153
  have L11 : ∀ (n : Nat), ∀ (x1 : Int32) (x2 : Int32) (x3 : Int32) (x4 : Int32) (x5 : Int32) (x6 : Int32) (T : SS), fX12_tryPlan_l11 N rec n x1 x2 x3 x4 x5 x6 T = some T' → WAT p l ev ({ frames := F + 9, cells := 0, slots := 0, locals := L + 202 } : Room) s m args below meth c QQ 8 D dA ad t1 t2 S T o 11 [(0, .ref (ad 52)), (1, .int x1), (2, .int x2), (3, .int x3), (4, .int x4), (5, .int x5), (6, .int x6)] [] := by
    intro n
    induction n with
    | zero =>
      intro x1 x2 x3 x4 x5 x6 T hR
      exact nomatch hR
    | succ n ih =>
      intro x1 x2 x3 x4 x5 x6 T hR H locs ls w hl
      rw [fX12_tryPlan_l11] at hR
      refine lv_iload hx hb dX12_tryPlan_11 (lv_at hl 6 rfl) ?_
      refine lv_aload_n hx hb dX12_tryPlan_13 rfl (lv_at hl 0 rfl) ?_
      refine gX12_ends X w lfX12_245 dX12_tryPlan_14 ?_
      refine lv_aload_n hx hb dX12_tryPlan_17 rfl (lv_at hl 0 rfl) ?_
      refine gX12_ends X w lfX12_245 dX12_tryPlan_18 ?_
      refine lv_imul hx hb dX12_tryPlan_21 ?_
      refine lv_icmp_ge (tgt := 122) hx hb dX12_tryPlan_22 (by decide) (fun c1 => ?_) (fun c1 => ?_)
      · rw [if_pos c1] at hR
        exact J122 x1 x3 x4 x5 T hR _ _ _ w (lv_sub hl [0, 1, 3, 4, 5] rfl)
      · rw [if_neg c1] at hR
        refine lv_iload_n hx hb dX12_tryPlan_25 rfl (lv_at hl 2 rfl) ?_
        refine lv_if_le (tgt := 122) hx hb dX12_tryPlan_26 (by decide) (fun c2 => ?_) (fun c2 => ?_)
        · rw [if_pos c2] at hR
          exact J122 x1 x3 x4 x5 T hR _ _ _ w (lv_sub hl [0, 1, 3, 4, 5] rfl)
        · rw [if_neg c2] at hR
          refine lv_aload_n hx hb dX12_tryPlan_29 rfl (lv_at hl 0 rfl) ?_
          refine lv_iload hx hb dX12_tryPlan_30 (lv_at hl 6 rfl) ?_
          refine lv_aload_n hx hb dX12_tryPlan_32 rfl (lv_at hl 0 rfl) ?_
          refine gX12_ends X w lfX12_245 dX12_tryPlan_33 ?_
          obtain ⟨g3, hR⟩ := ck_e hR
          refine lv_idiv hx hb dX12_tryPlan_36 (of_decide_eq_true g3) ?_
          refine lv_iload hx hb dX12_tryPlan_37 (lv_at hl 6 rfl) ?_
          refine lv_aload_n hx hb dX12_tryPlan_39 rfl (lv_at hl 0 rfl) ?_
          refine gX12_ends X w lfX12_245 dX12_tryPlan_40 ?_
          obtain ⟨g4, hR⟩ := ck_e hR
          refine lv_irem hx hb dX12_tryPlan_43 (of_decide_eq_true g4) ?_
          obtain ⟨r6, h5, hR⟩ := bd_e hR
          refine cVi (k := 52) (As := [.int (x6 / (gi T 52 22)), .int (ir x6 (gi T 52 22))]) (rest := []) X hl.1 w okX12_mayTry obX12 rfl lmX12_309 (kX12_mayTry h5) ⟨by show _ ≤ F + 9; dsimp only; omega, by show _ ≤ L + 202; simp only [List.map, Value.category, List.sum_cons, List.sum_nil, Nat.add_assoc]; omega⟩ ⟨rfl, rfl⟩ ⟨Nat.zero_le _, Nat.zero_le _⟩ rfl rfl (Nat.le_of_ble_eq_true rfl) dX12_tryPlan_44 (fun H locs zr6 w => ?_)
          refine lv_if_eq (tgt := 116) hx hb dX12_tryPlan_47 (by decide) (fun c7 => ?_) (fun c7 => ?_)
          · rw [if_pos c7] at hR
            obtain ⟨v8, ev8, hR⟩ := lt_e hR
            refine lv_iinc (v := v8) (lv' := [(6, .int v8), (0, .ref (ad 52)), (1, .int x1), (2, .int x2), (3, .int x3), (4, .int x4), (5, .int x5)]) hx hb dX12_tryPlan_116 hl (k := 6) rfl (by rw [ev8]; rfl) (by decide) rfl (fun ls hl => ?_)
            refine lv_goto (tgt := 11) hx hb dX12_tryPlan_119 (by decide) ?_
            exact ih x1 x2 x3 x4 x5 v8 T hR _ _ _ w (lv_sub hl [1, 2, 3, 4, 5, 6, 0] rfl)
          · rw [if_neg c7] at hR
            refine lv_iconst (v := 0) hx hb dX12_tryPlan_50 (by decide) ?_
            refine lv_istore (lv' := [(5, .int 0), (0, .ref (ad 52)), (1, .int x1), (2, .int x2), (3, .int x3), (4, .int x4), (6, .int x6)]) hx hb dX12_tryPlan_51 hl (by decide) rfl (fun ls hl => ?_)
            refine lv_aload_n hx hb dX12_tryPlan_53 rfl (lv_at hl 1 rfl) ?_
            refine lv_iload hx hb dX12_tryPlan_54 (lv_at hl 6 rfl) ?_
            refine lv_aload_n hx hb dX12_tryPlan_56 rfl (lv_at hl 1 rfl) ?_
            refine gX12_ends X w lfX12_245 dX12_tryPlan_57 ?_
            obtain ⟨g9, hR⟩ := ck_e hR
            refine lv_idiv hx hb dX12_tryPlan_60 (of_decide_eq_true g9) ?_
            refine lv_iload hx hb dX12_tryPlan_61 (lv_at hl 6 rfl) ?_
            refine lv_aload_n hx hb dX12_tryPlan_63 rfl (lv_at hl 1 rfl) ?_
            refine gX12_ends X w lfX12_245 dX12_tryPlan_64 ?_
            obtain ⟨g10, hR⟩ := ck_e hR
            refine lv_irem hx hb dX12_tryPlan_67 (of_decide_eq_true g10) ?_
            obtain ⟨T13, r12, h11, hR⟩ := b2_e hR
            refine cVi (k := 52) (As := [.int (x6 / (gi T 52 22)), .int (ir x6 (gi T 52 22))]) (rest := []) X hl.1 w okX12_tryNow obX12 rfl lmX12_318 (kX12_tryNow h11) ⟨by show _ ≤ F + 9; dsimp only; omega, by show _ ≤ L + 202; simp only [List.map, Value.category, List.sum_cons, List.sum_nil, Nat.add_assoc]; omega⟩ ⟨rfl, rfl⟩ ⟨Nat.zero_le _, Nat.zero_le _⟩ rfl rfl (Nat.le_of_ble_eq_true rfl) dX12_tryPlan_68 (fun H locs zr12 w => ?_)
            refine lv_istore (lv' := [(7, .int r12), (5, .int 0), (0, .ref (ad 52)), (1, .int x1), (2, .int x2), (3, .int x3), (4, .int x4), (6, .int x6)]) hx hb dX12_tryPlan_71 hl (by decide) rfl (fun ls hl => ?_)
            refine lv_aload_n hx hb dX12_tryPlan_73 rfl (lv_at hl 2 rfl) ?_
            refine lv_iload_n hx hb dX12_tryPlan_74 rfl (lv_at hl 3 rfl) ?_
            refine lv_iconst (v := 1) hx hb dX12_tryPlan_75 (by decide) ?_
            refine lv_iadd hx hb dX12_tryPlan_76 ?_
            refine lv_iload_n hx hb dX12_tryPlan_77 rfl (lv_at hl 4 rfl) ?_
            refine lv_iconst (v := 1) hx hb dX12_tryPlan_78 (by decide) ?_
            refine lv_isub hx hb dX12_tryPlan_79 ?_
            refine lv_bipush (v := 100) hx hb dX12_tryPlan_80 (by decide) ?_
            refine lv_iload_n hx hb dX12_tryPlan_82 rfl (lv_at hl 5 rfl) ?_
            refine lv_imul hx hb dX12_tryPlan_83 ?_
            refine lv_bipush (v := 10) hx hb dX12_tryPlan_84 (by decide) ?_
            refine lv_iload hx hb dX12_tryPlan_86 (lv_at hl 7 rfl) ?_
            refine lv_aload_n hx hb dX12_tryPlan_88 rfl (lv_at hl 2 rfl) ?_
            refine gX12_ends X w lfX12_245 dX12_tryPlan_89 ?_
            obtain ⟨g14, hR⟩ := ck_e hR
            refine lv_idiv hx hb dX12_tryPlan_92 (of_decide_eq_true g14) ?_
            refine lv_imul hx hb dX12_tryPlan_93 ?_
            refine lv_iadd hx hb dX12_tryPlan_94 ?_
            refine lv_iload hx hb dX12_tryPlan_95 (lv_at hl 7 rfl) ?_
            refine lv_aload_n hx hb dX12_tryPlan_97 rfl (lv_at hl 2 rfl) ?_
            refine gX12_ends X w lfX12_245 dX12_tryPlan_98 ?_
            obtain ⟨g15, hR⟩ := ck_e hR
            refine lv_irem hx hb dX12_tryPlan_101 (of_decide_eq_true g15) ?_
            refine lv_iadd hx hb dX12_tryPlan_102 ?_
            refine lv_iload hx hb dX12_tryPlan_103 (lv_at hl 6 rfl) ?_
            refine lv_iload hx hb dX12_tryPlan_105 (lv_at hl 0 rfl) ?_
            refine lv_iadd hx hb dX12_tryPlan_107 ?_
            obtain ⟨T17, h16, hR⟩ := bd_e hR
            refine cVv (k := 52) (As := [.int (x1 + 1), .int (x2 - 1), .int (((100 * x3) + (10 * (x6 / (gi T13 52 22)))) + (ir x6 (gi T13 52 22))), .int (x4 + r12)]) (rest := []) X hl.1 w okX12_tryPlan obX12 rfl lmX12_381 (hrec h16) ⟨by show _ ≤ F + 9; dsimp only; omega, by show _ ≤ L + 202; simp only [List.map, Value.category, List.sum_cons, List.sum_nil, Nat.add_assoc]; omega⟩ ⟨rfl, rfl⟩ ⟨Nat.zero_le _, Nat.zero_le _⟩ rfl rfl (Nat.le_of_ble_eq_true rfl) dX12_tryPlan_108 (fun H locs w => ?_)
            refine lv_aload_n hx hb dX12_tryPlan_111 rfl (lv_at hl 2 rfl) ?_
            refine lv_iload_n hx hb dX12_tryPlan_112 rfl (lv_at hl 3 rfl) ?_
            obtain ⟨T19, h18, hR⟩ := bd_e hR
            refine cVv (k := 52) (As := [.int x1]) (rest := []) X hl.1 w okX12_takeBack obX12 rfl lmX12_385 (kX12_takeBack h18) ⟨by show _ ≤ F + 9; dsimp only; omega, by show _ ≤ L + 202; simp only [List.map, Value.category, List.sum_cons, List.sum_nil, Nat.add_assoc]; omega⟩ ⟨rfl, rfl⟩ ⟨Nat.zero_le _, Nat.zero_le _⟩ rfl rfl (Nat.le_of_ble_eq_true rfl) dX12_tryPlan_113 (fun H locs w => ?_)
            obtain ⟨v20, ev20, hR⟩ := lt_e hR
            refine lv_iinc (v := v20) (lv' := [(6, .int v20), (7, .int r12), (5, .int 0), (0, .ref (ad 52)), (1, .int x1), (2, .int x2), (3, .int x3), (4, .int x4)]) hx hb dX12_tryPlan_116 hl (k := 7) rfl (by rw [ev20]; rfl) (by decide) rfl (fun ls hl => ?_)
            refine lv_goto (tgt := 11) hx hb dX12_tryPlan_119 (by decide) ?_
            exact ih x1 x2 x3 x4 0 v20 T19 hR _ _ _ w (lv_sub hl [3, 4, 5, 6, 7, 2, 0] rfl)
  have hl : lv_has ls 8 [(0, .ref (ad 52)), (1, .int p1), (2, .int p2), (3, .int p3), (4, .int p4)] := hl
  unfold fX12_tryPlan_b at hR
  refine lv_iconst (v := 1) hx hb dX12_tryPlan_0 (by decide) ?_
  refine lv_istore (lv' := [(5, .int 1), (0, .ref (ad 52)), (1, .int p1), (2, .int p2), (3, .int p3), (4, .int p4)]) hx hb dX12_tryPlan_1 hl (by decide) rfl (fun ls hl => ?_)
  refine lv_aload_n hx hb dX12_tryPlan_3 rfl (lv_at hl 1 rfl) ?_
  refine lv_iload_n hx hb dX12_tryPlan_4 rfl (lv_at hl 2 rfl) ?_
  obtain ⟨T2, h1, hR⟩ := bd_e hR
  refine cVv (k := 52) (As := [.int p1]) (rest := []) X hl.1 w okX12_putAside obX12 rfl lmX12_378 (kX12_putAside h1) ⟨by show _ ≤ F + 9; dsimp only; omega, by show _ ≤ L + 202; simp only [List.map, Value.category, List.sum_cons, List.sum_nil, Nat.add_assoc]; omega⟩ ⟨rfl, rfl⟩ ⟨Nat.zero_le _, Nat.zero_le _⟩ rfl rfl (Nat.le_of_ble_eq_true rfl) dX12_tryPlan_5 (fun H locs w => ?_)
  refine lv_iconst (v := 0) hx hb dX12_tryPlan_8 (by decide) ?_
  refine lv_istore (lv' := [(6, .int 0), (5, .int 1), (0, .ref (ad 52)), (1, .int p1), (2, .int p2), (3, .int p3), (4, .int p4)]) hx hb dX12_tryPlan_9 hl (by decide) rfl (fun ls hl => ?_)
  exact L11 N p1 p2 p3 p4 1 0 T2 hR _ _ _ w (lv_sub hl [2, 3, 4, 5, 6, 1, 0] rfl)
theorem kX12_tryPlan {l : Launch} {D : va_G} {dA : Nat → ClassId} {ad : Nat → Nat} {t1 t2 : Nat} {N : Nat} (d : Nat) : ∀ {S T : SS} {o : Nat → Int64} {p1 : Int32} {p2 : Int32} {p3 : Int32} {p4 : Int32} {T' : SS}, fX12_tryPlan N d T p1 p2 p3 p4 = some T' → KV l D dA ad t1 t2 yX12_tryPlan cX12_tryPlan 8 { frames := 9 * d, cells := 0, slots := 0, locals := 202 * d } [.ref (ad 52), .int p1, .int p2, .int p3, .int p4] S T o S T' := by
  induction d with
  | zero =>
    intro S T o p1 p2 p3 p4 T' hR
    exact nomatch hR
  | succ d ih =>
    intro S T o p1 p2 p3 p4 T' hR
    exact kX12_tryPlan_b ih hR
/- LooseEndsModel.plan(II)I -/
def fX12_plan (N : Nat) (T : SS) (p1 : Int32) (p2 : Int32) : Option (SS × Int32) := if (gi T 52 22) = 0 then
  (some (T, (-1)))
  else
  (bd (fX12_in N p1 1 2) fun r3 =>
  if r3 = 0 then
  (some (T, (-1)))
  else
  (bd (fX12_in N p2 0 1) fun r6 =>
  if r6 = 0 then
  (some (T, (-1)))
  else
  (lt (pj T 52 31 (-1)) fun T8 =>
  bd (fX12_tryPlan N 5 T8 0 p1 0 0) fun T10 =>
  if p2 = 1 then
  (some (T10, gi T10 52 32))
  else
  (if (gi T10 52 33) = 0 then
  (some (T10, (-1)))
  else
  (some (T10, gi T10 52 31))))))
set_option maxHeartbeats 4000000 in
set_option maxRecDepth 100000 in
theorem kX12_plan {l : Launch} {D : va_G} {dA : Nat → ClassId} {ad : Nat → Nat} {t1 t2 : Nat} {N : Nat} {S T : SS} {o : Nat → Int64} {p1 : Int32} {p2 : Int32} {r : Int32} {T' : SS} (hR : fX12_plan N T p1 p2 = some (T', r)) : KI l D dA ad t1 t2 yX12_plan cX12_plan 3 .int { frames := 46, cells := 0, slots := 0, locals := 1037 } [.ref (ad 52), .int p1, .int p2] S T o r S T' := by
  intro sz
  refine en_ (plainFor_of_name (by decide)) (Nat.le_of_ble_eq_true rfl) ?_
  intro p ev s m args below meth c QQ hQ hsz X hr hlk w ls hl
  have hx := X.1
  have hb := X.2.1
  have hl : lv_has ls 3 [(0, .ref (ad 52)), (1, .int p1), (2, .int p2)] := hl
  unfold fX12_plan at hR
  refine lv_aload_n hx hb dX12_plan_0 rfl (lv_at hl 0 rfl) ?_
  refine gX12_ends X w lfX12_245 dX12_plan_1 ?_
  refine lv_if_eq (tgt := 25) hx hb dX12_plan_4 (by decide) (fun c1 => ?_) (fun c1 => ?_)
  · rw [if_pos c1] at hR
    refine lv_iconst (v := -1) hx hb dX12_plan_25 (by decide) ?_
    rw [hQ]
    exact rt_i X hr hlk w hsz rfl rfl (lf2 hR).1 (lf2 hR).2 dX12_plan_26
  · rw [if_neg c1] at hR
    refine lv_iload_n hx hb dX12_plan_7 rfl (lv_at hl 1 rfl) ?_
    refine lv_iconst (v := 1) hx hb dX12_plan_8 (by decide) ?_
    refine lv_iconst (v := 2) hx hb dX12_plan_9 (by decide) ?_
    obtain ⟨r3, h2, hR⟩ := bd_e hR
    refine cSi (As := [.int p1, .int 1, .int 2]) (rest := []) X hl.1 w okX12_in lmX12_208 (kX12_in h2) ⟨Nat.le_of_ble_eq_true rfl, Nat.le_of_ble_eq_true rfl⟩ ⟨rfl, rfl⟩ ⟨Nat.zero_le _, Nat.zero_le _⟩ rfl rfl (Nat.le_of_ble_eq_true rfl) dX12_plan_10 (fun H locs zr3 w => ?_)
    refine lv_if_eq (tgt := 25) hx hb dX12_plan_13 (by decide) (fun c4 => ?_) (fun c4 => ?_)
    · rw [if_pos c4] at hR
      refine lv_iconst (v := -1) hx hb dX12_plan_25 (by decide) ?_
      rw [hQ]
      exact rt_i X hr hlk w hsz rfl rfl (lf2 hR).1 (lf2 hR).2 dX12_plan_26
    · rw [if_neg c4] at hR
      refine lv_iload_n hx hb dX12_plan_16 rfl (lv_at hl 2 rfl) ?_
      refine lv_iconst (v := 0) hx hb dX12_plan_17 (by decide) ?_
      refine lv_iconst (v := 1) hx hb dX12_plan_18 (by decide) ?_
      obtain ⟨r6, h5, hR⟩ := bd_e hR
      refine cSi (As := [.int p2, .int 0, .int 1]) (rest := []) X hl.1 w okX12_in lmX12_208 (kX12_in h5) ⟨Nat.le_of_ble_eq_true rfl, Nat.le_of_ble_eq_true rfl⟩ ⟨rfl, rfl⟩ ⟨Nat.zero_le _, Nat.zero_le _⟩ rfl rfl (Nat.le_of_ble_eq_true rfl) dX12_plan_19 (fun H locs zr6 w => ?_)
      refine lv_if_ne (tgt := 27) hx hb dX12_plan_22 (by decide) (fun c7 => ?_) (fun c7 => ?_)
      · rw [if_neg c7] at hR
        refine lv_aload_n hx hb dX12_plan_27 rfl (lv_at hl 0 rfl) ?_
        refine lv_iconst (v := -1) hx hb dX12_plan_28 (by decide) ?_
        obtain ⟨T8, eT8, hR⟩ := lt_e hR
        refine pX12_bestRow X w lfX12_358 dX12_plan_29 (fun H locs w => ?_)
        rw [← eT8] at w
        refine lv_aload_n hx hb dX12_plan_32 rfl (lv_at hl 0 rfl) ?_
        refine lv_iconst (v := 0) hx hb dX12_plan_33 (by decide) ?_
        refine lv_iload_n hx hb dX12_plan_34 rfl (lv_at hl 1 rfl) ?_
        refine lv_iconst (v := 0) hx hb dX12_plan_35 (by decide) ?_
        refine lv_iconst (v := 0) hx hb dX12_plan_36 (by decide) ?_
        obtain ⟨T10, h9, hR⟩ := bd_e hR
        refine cVv (k := 52) (As := [.int 0, .int p1, .int 0, .int 0]) (rest := []) X hl.1 w okX12_tryPlan obX12 rfl lmX12_381 (kX12_tryPlan 5 h9) ⟨Nat.le_of_ble_eq_true rfl, Nat.le_of_ble_eq_true rfl⟩ ⟨rfl, rfl⟩ ⟨Nat.zero_le _, Nat.zero_le _⟩ rfl rfl (Nat.le_of_ble_eq_true rfl) dX12_plan_37 (fun H locs w => ?_)
        refine lv_iload_n hx hb dX12_plan_40 rfl (lv_at hl 2 rfl) ?_
        refine lv_iconst (v := 1) hx hb dX12_plan_41 (by decide) ?_
        refine lv_icmp_ne (tgt := 52) hx hb dX12_plan_42 (by decide) (fun c11 => ?_) (fun c11 => ?_)
        · rw [if_neg c11] at hR
          refine lv_aload_n hx hb dX12_plan_52 rfl (lv_at hl 0 rfl) ?_
          refine gX12_bestLong X w lfX12_371 dX12_plan_53 ?_
          refine lv_if_ne (tgt := 63) hx hb dX12_plan_56 (by decide) (fun c12 => ?_) (fun c12 => ?_)
          · rw [if_neg c12] at hR
            refine lv_aload_n hx hb dX12_plan_63 rfl (lv_at hl 0 rfl) ?_
            refine gX12_bestRow X w lfX12_358 dX12_plan_64 ?_
            rw [hQ]
            exact rt_i X hr hlk w hsz rfl rfl (lf2 hR).1 (lf2 hR).2 dX12_plan_67
          · rw [if_pos c12] at hR
            refine lv_iconst (v := -1) hx hb dX12_plan_59 (by decide) ?_
            refine lv_goto (tgt := 67) hx hb dX12_plan_60 (by decide) ?_
            rw [hQ]
            exact rt_i X hr hlk w hsz rfl rfl (lf2 hR).1 (lf2 hR).2 dX12_plan_67
        · rw [if_pos c11] at hR
          refine lv_aload_n hx hb dX12_plan_45 rfl (lv_at hl 0 rfl) ?_
          refine gX12_bestMany X w lfX12_361 dX12_plan_46 ?_
          refine lv_goto (tgt := 67) hx hb dX12_plan_49 (by decide) ?_
          rw [hQ]
          exact rt_i X hr hlk w hsz rfl rfl (lf2 hR).1 (lf2 hR).2 dX12_plan_67
      · rw [if_pos c7] at hR
        refine lv_iconst (v := -1) hx hb dX12_plan_25 (by decide) ?_
        rw [hQ]
        exact rt_i X hr hlk w hsz rfl rfl (lf2 hR).1 (lf2 hR).2 dX12_plan_26
/- LooseEndsModel.tryLay(III)V -/
def fX12_tryLay_j83 (N : Nat) (rec : SS → Int32 → Int32 → Int32 → Option (SS)) (kc26 : Int32 → Int32 → Int32 → Int32 → SS → Option (SS)) (x1 : Int32) (x2 : Int32) (x3 : Int32) (x4 : Int32) (y0 : Int32) (y1 : Int32) (T : SS) : Option (SS) := bd (rec T y1 y0 x3) fun T2 =>
  ck (inb x4 7) <|
  ck (inb x1 7) <|
  ck (inb x4 7) <|
  lt (pa T2 73 x4 ((ga T2 73 x4) - (ga T2 72 x1))) fun T6 =>
  lt (x4 + 1) fun v7 =>
  kc26 x1 x2 x3 v7 T6
def fX12_tryLay_l26 (N : Nat) (rec : SS → Int32 → Int32 → Int32 → Option (SS)) : Nat → Int32 → Int32 → Int32 → Int32 → SS → Option (SS)
  | 0, _, _, _, _, _ => none
  | n + 1, x1, x2, x3, x4, T => if x2 < x4 then
  (some T)
  else
  (ck (inb x4 7) <|
  ck (inb x1 7) <|
  if x3 < ((ga T 73 x4) + (ga T 72 x1)) then
  (lt (x4 + 1) fun v5 =>
  fX12_tryLay_l26 N rec n x1 x2 x3 v5 T)
  else
  (ck (inb x4 7) <|
  ck (inb x1 7) <|
  ck (inb x4 7) <|
  lt (pa T 73 x4 ((ga T 73 x4) + (ga T 72 x1))) fun T9 =>
  if x4 = x2 then
  (fX12_tryLay_j83 N rec (fX12_tryLay_l26 N rec n) x1 x2 x3 x4 (x2 + 1) (x1 + 1) T9)
  else
  (fX12_tryLay_j83 N rec (fX12_tryLay_l26 N rec n) x1 x2 x3 x4 x2 (x1 + 1) T9)))
def fX12_tryLay_b (N : Nat) (rec : SS → Int32 → Int32 → Int32 → Option (SS)) (T : SS) (p1 : Int32) (p2 : Int32) (p3 : Int32) : Option (SS) := if p2 < (gi T 52 38) then
  (if p1 = (gi T 52 37) then
  (lt (pj T 52 38 p2) fun T3 =>
  some T3)
  else
  (fX12_tryLay_l26 N rec N p1 p2 p3 0 T))
  else
  (some T)
def fX12_tryLay (N : Nat) : Nat → SS → Int32 → Int32 → Int32 → Option (SS)
  | 0, _, _, _, _ => none
  | d + 1, T, p1, p2, p3 => fX12_tryLay_b N (fX12_tryLay N d) T p1 p2 p3
set_option maxHeartbeats 4000000 in
set_option maxRecDepth 100000 in
theorem kX12_tryLay_b {l : Launch} {D : va_G} {dA : Nat → ClassId} {ad : Nat → Nat} {t1 t2 : Nat} {N : Nat} {rec : SS → Int32 → Int32 → Int32 → Option (SS)} {F L : Nat} (hrec : ∀ {S T : SS} {o : Nat → Int64} {p1 : Int32} {p2 : Int32} {p3 : Int32} {T' : SS}, rec T p1 p2 p3 = some T' → KV l D dA ad t1 t2 yX12_tryLay cX12_tryLay 5 { frames := F, cells := 0, slots := 0, locals := L } [.ref (ad 52), .int p1, .int p2, .int p3] S T o S T') {S T : SS} {o : Nat → Int64} {p1 : Int32} {p2 : Int32} {p3 : Int32} {T' : SS} (hR : fX12_tryLay_b N rec T p1 p2 p3 = some T') : KV l D dA ad t1 t2 yX12_tryLay cX12_tryLay 5 { frames := F + 1, cells := 0, slots := 0, locals := L + 24 } [.ref (ad 52), .int p1, .int p2, .int p3] S T o S T' := by
  intro sz
  refine en_ (plainFor_of_name (by decide)) (Nat.le_of_ble_eq_true rfl) ?_
  intro p ev s m args below meth c QQ hQ hsz X hr hlk w ls hl
  have hx := X.1
  have hb := X.2.1
  have J83 : ∀ (kc26 : Int32 → Int32 → Int32 → Int32 → SS → Option (SS)) (_ : ∀ (x1 : Int32) (x2 : Int32) (x3 : Int32) (x4 : Int32) (T : SS), kc26 x1 x2 x3 x4 T = some T' → WAT p l ev ({ frames := F + 1, cells := 0, slots := 0, locals := L + 24 } : Room) s m args below meth c QQ 5 D dA ad t1 t2 S T o 26 [(0, .ref (ad 52)), (1, .int x1), (2, .int x2), (3, .int x3), (4, .int x4)] []), ∀ (x1 : Int32) (x2 : Int32) (x3 : Int32) (x4 : Int32) (y0 : Int32) (y1 : Int32) (T : SS), fX12_tryLay_j83 N rec kc26 x1 x2 x3 x4 y0 y1 T = some T' → WAT p l ev ({ frames := F + 1, cells := 0, slots := 0, locals := L + 24 } : Room) s m args below meth c QQ 5 D dA ad t1 t2 S T o 83 [(0, .ref (ad 52)), (1, .int x1), (2, .int x2), (3, .int x3), (4, .int x4)] [.int y0, .int y1, .ref (ad 52)] := by
    intro kc26 hk26 x1 x2 x3 x4 y0 y1 T hR H locs ls w hl
    unfold fX12_tryLay_j83 at hR
    refine lv_iload_n hx hb dX12_tryLay_83 rfl (lv_at hl 3 rfl) ?_
    obtain ⟨T2, h1, hR⟩ := bd_e hR
    refine cVv (k := 52) (As := [.int y1, .int y0, .int x3]) (rest := []) X hl.1 w okX12_tryLay obX12 rfl lmX12_394 (hrec h1) ⟨by show _ ≤ F + 1; dsimp only; omega, by show _ ≤ L + 24; simp only [List.map, Value.category, List.sum_cons, List.sum_nil, Nat.add_assoc]; omega⟩ ⟨rfl, rfl⟩ ⟨Nat.zero_le _, Nat.zero_le _⟩ rfl rfl (Nat.le_of_ble_eq_true rfl) dX12_tryLay_84 (fun H locs w => ?_)
    refine lv_aload_n hx hb dX12_tryLay_87 rfl (lv_at hl 0 rfl) ?_
    refine gX12_laid X w lfX12_77 dX12_tryLay_88 ?_
    refine lv_iload hx hb dX12_tryLay_91 (lv_at hl 4 rfl) ?_
    refine lv_dup2_11 hx hb dX12_tryLay_93 rfl rfl ?_
    obtain ⟨g3, hR⟩ := ck_e hR
    refine ialT (n := 7) rfl (by decide) X w rfl g3 dX12_tryLay_94 ?_
    refine lv_aload_n hx hb dX12_tryLay_95 rfl (lv_at hl 0 rfl) ?_
    refine gX12_pieces X w lfX12_74 dX12_tryLay_96 ?_
    refine lv_iload_n hx hb dX12_tryLay_99 rfl (lv_at hl 1 rfl) ?_
    obtain ⟨g4, hR⟩ := ck_e hR
    refine ialT (n := 7) rfl (by decide) X w rfl g4 dX12_tryLay_100 ?_
    refine lv_isub hx hb dX12_tryLay_101 ?_
    obtain ⟨g5, hR⟩ := ck_e hR
    obtain ⟨T6, eT6, hR⟩ := lt_e hR
    refine iasT (n := 7) rfl (by decide) X w rfl g5 dX12_tryLay_102 (fun H locs w => ?_)
    rw [← eT6] at w
    obtain ⟨v7, ev7, hR⟩ := lt_e hR
    refine lv_iinc (v := v7) (lv' := [(4, .int v7), (0, .ref (ad 52)), (1, .int x1), (2, .int x2), (3, .int x3)]) hx hb dX12_tryLay_103 hl (k := 4) rfl (by rw [ev7]; rfl) (by decide) rfl (fun ls hl => ?_)
    refine lv_goto (tgt := 26) hx hb dX12_tryLay_106 (by decide) ?_
    exact hk26 x1 x2 x3 v7 T6 hR _ _ _ w (lv_sub hl [1, 2, 3, 4, 0] rfl)
  have L26 : ∀ (n : Nat), ∀ (x1 : Int32) (x2 : Int32) (x3 : Int32) (x4 : Int32) (T : SS), fX12_tryLay_l26 N rec n x1 x2 x3 x4 T = some T' → WAT p l ev ({ frames := F + 1, cells := 0, slots := 0, locals := L + 24 } : Room) s m args below meth c QQ 5 D dA ad t1 t2 S T o 26 [(0, .ref (ad 52)), (1, .int x1), (2, .int x2), (3, .int x3), (4, .int x4)] [] := by
    intro n
    induction n with
    | zero =>
      intro x1 x2 x3 x4 T hR
      exact nomatch hR
    | succ n ih =>
      intro x1 x2 x3 x4 T hR H locs ls w hl
      rw [fX12_tryLay_l26] at hR
      refine lv_iload hx hb dX12_tryLay_26 (lv_at hl 4 rfl) ?_
      refine lv_iload_n hx hb dX12_tryLay_28 rfl (lv_at hl 2 rfl) ?_
      refine lv_icmp_gt (tgt := 109) hx hb dX12_tryLay_29 (by decide) (fun c1 => ?_) (fun c1 => ?_)
      · rw [if_pos c1] at hR
        rw [hQ]
        exact rt_v X hr hlk w hsz rfl (lf1 hR) dX12_tryLay_109
      · rw [if_neg c1] at hR
        refine lv_aload_n hx hb dX12_tryLay_32 rfl (lv_at hl 0 rfl) ?_
        refine gX12_laid X w lfX12_77 dX12_tryLay_33 ?_
        refine lv_iload hx hb dX12_tryLay_36 (lv_at hl 4 rfl) ?_
        obtain ⟨g2, hR⟩ := ck_e hR
        refine ialT (n := 7) rfl (by decide) X w rfl g2 dX12_tryLay_38 ?_
        refine lv_aload_n hx hb dX12_tryLay_39 rfl (lv_at hl 0 rfl) ?_
        refine gX12_pieces X w lfX12_74 dX12_tryLay_40 ?_
        refine lv_iload_n hx hb dX12_tryLay_43 rfl (lv_at hl 1 rfl) ?_
        obtain ⟨g3, hR⟩ := ck_e hR
        refine ialT (n := 7) rfl (by decide) X w rfl g3 dX12_tryLay_44 ?_
        refine lv_iadd hx hb dX12_tryLay_45 ?_
        refine lv_iload_n hx hb dX12_tryLay_46 rfl (lv_at hl 3 rfl) ?_
        refine lv_icmp_gt (tgt := 103) hx hb dX12_tryLay_47 (by decide) (fun c4 => ?_) (fun c4 => ?_)
        · rw [if_pos c4] at hR
          obtain ⟨v5, ev5, hR⟩ := lt_e hR
          refine lv_iinc (v := v5) (lv' := [(4, .int v5), (0, .ref (ad 52)), (1, .int x1), (2, .int x2), (3, .int x3)]) hx hb dX12_tryLay_103 hl (k := 4) rfl (by rw [ev5]; rfl) (by decide) rfl (fun ls hl => ?_)
          refine lv_goto (tgt := 26) hx hb dX12_tryLay_106 (by decide) ?_
          exact ih x1 x2 x3 v5 T hR _ _ _ w (lv_sub hl [1, 2, 3, 4, 0] rfl)
        · rw [if_neg c4] at hR
          refine lv_aload_n hx hb dX12_tryLay_50 rfl (lv_at hl 0 rfl) ?_
          refine gX12_laid X w lfX12_77 dX12_tryLay_51 ?_
          refine lv_iload hx hb dX12_tryLay_54 (lv_at hl 4 rfl) ?_
          refine lv_dup2_11 hx hb dX12_tryLay_56 rfl rfl ?_
          obtain ⟨g6, hR⟩ := ck_e hR
          refine ialT (n := 7) rfl (by decide) X w rfl g6 dX12_tryLay_57 ?_
          refine lv_aload_n hx hb dX12_tryLay_58 rfl (lv_at hl 0 rfl) ?_
          refine gX12_pieces X w lfX12_74 dX12_tryLay_59 ?_
          refine lv_iload_n hx hb dX12_tryLay_62 rfl (lv_at hl 1 rfl) ?_
          obtain ⟨g7, hR⟩ := ck_e hR
          refine ialT (n := 7) rfl (by decide) X w rfl g7 dX12_tryLay_63 ?_
          refine lv_iadd hx hb dX12_tryLay_64 ?_
          obtain ⟨g8, hR⟩ := ck_e hR
          obtain ⟨T9, eT9, hR⟩ := lt_e hR
          refine iasT (n := 7) rfl (by decide) X w rfl g8 dX12_tryLay_65 (fun H locs w => ?_)
          rw [← eT9] at w
          refine lv_aload_n hx hb dX12_tryLay_66 rfl (lv_at hl 0 rfl) ?_
          refine lv_iload_n hx hb dX12_tryLay_67 rfl (lv_at hl 1 rfl) ?_
          refine lv_iconst (v := 1) hx hb dX12_tryLay_68 (by decide) ?_
          refine lv_iadd hx hb dX12_tryLay_69 ?_
          refine lv_iload hx hb dX12_tryLay_70 (lv_at hl 4 rfl) ?_
          refine lv_iload_n hx hb dX12_tryLay_72 rfl (lv_at hl 2 rfl) ?_
          refine lv_icmp_ne (tgt := 82) hx hb dX12_tryLay_73 (by decide) (fun c10 => ?_) (fun c10 => ?_)
          · rw [if_neg c10] at hR
            refine lv_iload_n hx hb dX12_tryLay_82 rfl (lv_at hl 2 rfl) ?_
            exact J83 _ ih x1 x2 x3 x4 x2 (x1 + 1) T9 hR _ _ _ w (lv_sub hl [0, 1, 2, 3, 4] rfl)
          · rw [if_pos c10] at hR
            refine lv_iload_n hx hb dX12_tryLay_76 rfl (lv_at hl 2 rfl) ?_
            refine lv_iconst (v := 1) hx hb dX12_tryLay_77 (by decide) ?_
            refine lv_iadd hx hb dX12_tryLay_78 ?_
            refine lv_goto (tgt := 83) hx hb dX12_tryLay_79 (by decide) ?_
            exact J83 _ ih x1 x2 x3 x4 (x2 + 1) (x1 + 1) T9 hR _ _ _ w (lv_sub hl [0, 1, 2, 3, 4] rfl)
  have hl : lv_has ls 5 [(0, .ref (ad 52)), (1, .int p1), (2, .int p2), (3, .int p3)] := hl
  unfold fX12_tryLay_b at hR
  refine lv_iload_n hx hb dX12_tryLay_0 rfl (lv_at hl 2 rfl) ?_
  refine lv_aload_n hx hb dX12_tryLay_1 rfl (lv_at hl 0 rfl) ?_
  refine gX12_fewest X w lfX12_388 dX12_tryLay_2 ?_
  refine lv_icmp_lt (tgt := 9) hx hb dX12_tryLay_5 (by decide) (fun c1 => ?_) (fun c1 => ?_)
  · rw [if_pos c1] at hR
    refine lv_iload_n hx hb dX12_tryLay_9 rfl (lv_at hl 1 rfl) ?_
    refine lv_aload_n hx hb dX12_tryLay_10 rfl (lv_at hl 0 rfl) ?_
    refine gX12_pieceMany X w lfX12_391 dX12_tryLay_11 ?_
    refine lv_icmp_ne (tgt := 23) hx hb dX12_tryLay_14 (by decide) (fun c2 => ?_) (fun c2 => ?_)
    · rw [if_neg c2] at hR
      refine lv_iconst (v := 0) hx hb dX12_tryLay_23 (by decide) ?_
      refine lv_istore (lv' := [(4, .int 0), (0, .ref (ad 52)), (1, .int p1), (2, .int p2), (3, .int p3)]) hx hb dX12_tryLay_24 hl (by decide) rfl (fun ls hl => ?_)
      exact L26 N p1 p2 p3 0 T hR _ _ _ w (lv_sub hl [1, 2, 3, 4, 0] rfl)
    · rw [if_pos c2] at hR
      refine lv_aload_n hx hb dX12_tryLay_17 rfl (lv_at hl 0 rfl) ?_
      refine lv_iload_n hx hb dX12_tryLay_18 rfl (lv_at hl 2 rfl) ?_
      obtain ⟨T3, eT3, hR⟩ := lt_e hR
      refine pX12_fewest X w lfX12_388 dX12_tryLay_19 (fun H locs w => ?_)
      rw [← eT3] at w
      rw [hQ]
      exact rt_v X hr hlk w hsz rfl (lf1 hR) dX12_tryLay_22
  · rw [if_neg c1] at hR
    rw [hQ]
    exact rt_v X hr hlk w hsz rfl (lf1 hR) dX12_tryLay_8
theorem kX12_tryLay {l : Launch} {D : va_G} {dA : Nat → ClassId} {ad : Nat → Nat} {t1 t2 : Nat} {N : Nat} (d : Nat) : ∀ {S T : SS} {o : Nat → Int64} {p1 : Int32} {p2 : Int32} {p3 : Int32} {T' : SS}, fX12_tryLay N d T p1 p2 p3 = some T' → KV l D dA ad t1 t2 yX12_tryLay cX12_tryLay 5 { frames := 1 * d, cells := 0, slots := 0, locals := 24 * d } [.ref (ad 52), .int p1, .int p2, .int p3] S T o S T' := by
  induction d with
  | zero =>
    intro S T o p1 p2 p3 T' hR
    exact nomatch hR
  | succ d ih =>
    intro S T o p1 p2 p3 T' hR
    exact kX12_tryLay_b ih hR
/- LooseEndsModel.blankets(I)I -/
def fX12_blankets_j149 (N : Nat) (x2 : Int32) (T : SS) : Option (SS × Int32) := if x2 = 0 then
  (some (T, (-1)))
  else
  (some (T, gi T 52 38))
def fX12_blankets_l113 (N : Nat) : Nat → Int32 → Int32 → Int32 → SS → Option (SS × Int32)
  | 0, _, _, _, _ => none
  | n + 1, x1, x2, x3, T => if 7 ≤ x3 then
  (lt (pj T 52 38 8) fun T2 =>
  if x2 = 0 then
  (fX12_blankets_j149 N x2 T2)
  else
  (bd (fX12_tryLay N 10 T2 0 0 x1) fun T5 =>
  fX12_blankets_j149 N x2 T5))
  else
  (ck (inb x3 7) <|
  lt (pa T 73 x3 0) fun T7 =>
  lt (x3 + 1) fun v8 =>
  fX12_blankets_l113 N n x1 x2 v8 T7)
def fX12_blankets_j93 (N : Nat) (kc29 : Int32 → Int32 → Int32 → SS → Option (SS × Int32)) (x1 : Int32) (x3 : Int32) (T : SS) : Option (SS × Int32) := lt (pj T 52 37 ((gi T 52 37) + 1)) fun T1 =>
  lt (x3 + 1) fun v2 =>
  kc29 x1 0 v2 T1
def fX12_blankets_l29 (N : Nat) : Nat → Int32 → Int32 → Int32 → SS → Option (SS × Int32)
  | 0, _, _, _, _ => none
  | n + 1, x1, x2, x3, T => if (gi T 52 22) ≤ x3 then
  (fX12_blankets_l113 N N x1 x2 0 T)
  else
  (bd (fX12_isSold N T x3) fun r3 =>
  if r3 = 0 then
  (ck (inb (21 + x3) 214) <|
  if (ga T 67 (21 + x3)) = (-1) then
  (bd (fX12_lengthOf N T x3) fun r10 =>
  ck (inb (gi T 52 37) 7) <|
  lt (pa T 72 (gi T 52 37) r10) fun T12 =>
  if x2 = 0 then
  (fX12_blankets_j93 N (fX12_blankets_l29 N n) x1 x3 T12)
  else
  (ck (inb (gi T12 52 37) 7) <|
  if x1 < (ga T12 72 (gi T12 52 37)) then
  (fX12_blankets_j93 N (fX12_blankets_l29 N n) x1 x3 T12)
  else
  (lt (pj T12 52 37 ((gi T12 52 37) + 1)) fun T16 =>
  lt (x3 + 1) fun v17 =>
  fX12_blankets_l29 N n x1 1 v17 T16)))
  else
  (lt (x3 + 1) fun v8 =>
  fX12_blankets_l29 N n x1 x2 v8 T))
  else
  (lt (x3 + 1) fun v5 =>
  fX12_blankets_l29 N n x1 x2 v5 T))
def fX12_blankets (N : Nat) (T : SS) (p1 : Int32) : Option (SS × Int32) := if (gi T 52 22) = 0 then
  (some (T, (-1)))
  else
  (bd (fX12_in N p1 1 140) fun r3 =>
  if r3 = 0 then
  (some (T, (-1)))
  else
  (lt (pj T 52 37 0) fun T5 =>
  fX12_blankets_l29 N N p1 1 0 T5))
set_option maxHeartbeats 4000000 in
set_option maxRecDepth 100000 in
theorem kX12_blankets {l : Launch} {D : va_G} {dA : Nat → ClassId} {ad : Nat → Nat} {t1 t2 : Nat} {N : Nat} {S T : SS} {o : Nat → Int64} {p1 : Int32} {r : Int32} {T' : SS} (hR : fX12_blankets N T p1 = some (T', r)) : KI l D dA ad t1 t2 yX12_blankets cX12_blankets 4 .int { frames := 11, cells := 0, slots := 0, locals := 264 } [.ref (ad 52), .int p1] S T o r S T' := by
  intro sz
  refine en_ (plainFor_of_name (by decide)) (Nat.le_of_ble_eq_true rfl) ?_
  intro p ev s m args below meth c QQ hQ hsz X hr hlk w ls hl
  have hx := X.1
  have hb := X.2.1
  have J149 : ∀ (x2 : Int32) (T : SS), fX12_blankets_j149 N x2 T = some (T', r) → WAT p l ev ({ frames := 11, cells := 0, slots := 0, locals := 264 } : Room) s m args below meth c QQ 4 D dA ad t1 t2 S T o 149 [(0, .ref (ad 52)), (2, .int x2)] [] := by
    intro x2 T hR H locs ls w hl
    unfold fX12_blankets_j149 at hR
    refine lv_iload_n hx hb dX12_blankets_149 rfl (lv_at hl 1 rfl) ?_
    refine lv_if_eq (tgt := 160) hx hb dX12_blankets_150 (by decide) (fun c1 => ?_) (fun c1 => ?_)
    · rw [if_pos c1] at hR
      refine lv_iconst (v := -1) hx hb dX12_blankets_160 (by decide) ?_
      rw [hQ]
      exact rt_i X hr hlk w hsz rfl rfl (lf2 hR).1 (lf2 hR).2 dX12_blankets_161
    · rw [if_neg c1] at hR
      refine lv_aload_n hx hb dX12_blankets_153 rfl (lv_at hl 0 rfl) ?_
      refine gX12_fewest X w lfX12_388 dX12_blankets_154 ?_
      refine lv_goto (tgt := 161) hx hb dX12_blankets_157 (by decide) ?_
      rw [hQ]
      exact rt_i X hr hlk w hsz rfl rfl (lf2 hR).1 (lf2 hR).2 dX12_blankets_161
  have L113 : ∀ (n : Nat), ∀ (x1 : Int32) (x2 : Int32) (x3 : Int32) (T : SS), fX12_blankets_l113 N n x1 x2 x3 T = some (T', r) → WAT p l ev ({ frames := 11, cells := 0, slots := 0, locals := 264 } : Room) s m args below meth c QQ 4 D dA ad t1 t2 S T o 113 [(0, .ref (ad 52)), (1, .int x1), (2, .int x2), (3, .int x3)] [] := by
    intro n
    induction n with
    | zero =>
      intro x1 x2 x3 T hR
      exact nomatch hR
    | succ n ih =>
      intro x1 x2 x3 T hR H locs ls w hl
      rw [fX12_blankets_l113] at hR
      refine lv_iload_n hx hb dX12_blankets_113 rfl (lv_at hl 3 rfl) ?_
      refine lv_bipush (v := 7) hx hb dX12_blankets_114 (by decide) ?_
      refine lv_icmp_ge (tgt := 132) hx hb dX12_blankets_116 (by decide) (fun c1 => ?_) (fun c1 => ?_)
      · rw [if_pos c1] at hR
        refine lv_aload_n hx hb dX12_blankets_132 rfl (lv_at hl 0 rfl) ?_
        refine lv_bipush (v := 8) hx hb dX12_blankets_133 (by decide) ?_
        obtain ⟨T2, eT2, hR⟩ := lt_e hR
        refine pX12_fewest X w lfX12_388 dX12_blankets_135 (fun H locs w => ?_)
        rw [← eT2] at w
        refine lv_iload_n hx hb dX12_blankets_138 rfl (lv_at hl 2 rfl) ?_
        refine lv_if_eq (tgt := 149) hx hb dX12_blankets_139 (by decide) (fun c3 => ?_) (fun c3 => ?_)
        · rw [if_pos c3] at hR
          exact J149 x2 T2 hR _ _ _ w (lv_sub hl [0, 2] rfl)
        · rw [if_neg c3] at hR
          refine lv_aload_n hx hb dX12_blankets_142 rfl (lv_at hl 0 rfl) ?_
          refine lv_iconst (v := 0) hx hb dX12_blankets_143 (by decide) ?_
          refine lv_iconst (v := 0) hx hb dX12_blankets_144 (by decide) ?_
          refine lv_iload_n hx hb dX12_blankets_145 rfl (lv_at hl 1 rfl) ?_
          obtain ⟨T5, h4, hR⟩ := bd_e hR
          refine cVv (k := 52) (As := [.int 0, .int 0, .int x1]) (rest := []) X hl.1 w okX12_tryLay obX12 rfl lmX12_394 (kX12_tryLay 10 h4) ⟨Nat.le_of_ble_eq_true rfl, Nat.le_of_ble_eq_true rfl⟩ ⟨rfl, rfl⟩ ⟨Nat.zero_le _, Nat.zero_le _⟩ rfl rfl (Nat.le_of_ble_eq_true rfl) dX12_blankets_146 (fun H locs w => ?_)
          exact J149 x2 T5 hR _ _ _ w (lv_sub hl [0, 2] rfl)
      · rw [if_neg c1] at hR
        refine lv_aload_n hx hb dX12_blankets_119 rfl (lv_at hl 0 rfl) ?_
        refine gX12_laid X w lfX12_77 dX12_blankets_120 ?_
        refine lv_iload_n hx hb dX12_blankets_123 rfl (lv_at hl 3 rfl) ?_
        refine lv_iconst (v := 0) hx hb dX12_blankets_124 (by decide) ?_
        obtain ⟨g6, hR⟩ := ck_e hR
        obtain ⟨T7, eT7, hR⟩ := lt_e hR
        refine iasT (n := 7) rfl (by decide) X w rfl g6 dX12_blankets_125 (fun H locs w => ?_)
        rw [← eT7] at w
        obtain ⟨v8, ev8, hR⟩ := lt_e hR
        refine lv_iinc (v := v8) (lv' := [(3, .int v8), (0, .ref (ad 52)), (1, .int x1), (2, .int x2)]) hx hb dX12_blankets_126 hl (k := 3) rfl (by rw [ev8]; rfl) (by decide) rfl (fun ls hl => ?_)
        refine lv_goto (tgt := 113) hx hb dX12_blankets_129 (by decide) ?_
        exact ih x1 x2 v8 T7 hR _ _ _ w (lv_sub hl [1, 2, 3, 0] rfl)
  have J93 : ∀ (kc29 : Int32 → Int32 → Int32 → SS → Option (SS × Int32)) (_ : ∀ (x1 : Int32) (x2 : Int32) (x3 : Int32) (T : SS), kc29 x1 x2 x3 T = some (T', r) → WAT p l ev ({ frames := 11, cells := 0, slots := 0, locals := 264 } : Room) s m args below meth c QQ 4 D dA ad t1 t2 S T o 29 [(0, .ref (ad 52)), (1, .int x1), (2, .int x2), (3, .int x3)] []), ∀ (x1 : Int32) (x3 : Int32) (T : SS), fX12_blankets_j93 N kc29 x1 x3 T = some (T', r) → WAT p l ev ({ frames := 11, cells := 0, slots := 0, locals := 264 } : Room) s m args below meth c QQ 4 D dA ad t1 t2 S T o 93 [(0, .ref (ad 52)), (1, .int x1), (3, .int x3)] [] := by
    intro kc29 hk29 x1 x3 T hR H locs ls w hl
    unfold fX12_blankets_j93 at hR
    refine lv_iconst (v := 0) hx hb dX12_blankets_93 (by decide) ?_
    refine lv_istore_n (lv' := [(2, .int 0), (0, .ref (ad 52)), (1, .int x1), (3, .int x3)]) hx hb dX12_blankets_94 rfl hl (by decide) rfl (fun ls hl => ?_)
    refine lv_aload_n hx hb dX12_blankets_95 rfl (lv_at hl 1 rfl) ?_
    refine lv_dup hx hb dX12_blankets_96 rfl ?_
    refine gX12_pieceMany X w lfX12_391 dX12_blankets_97 ?_
    refine lv_iconst (v := 1) hx hb dX12_blankets_100 (by decide) ?_
    refine lv_iadd hx hb dX12_blankets_101 ?_
    obtain ⟨T1, eT1, hR⟩ := lt_e hR
    refine pX12_pieceMany X w lfX12_391 dX12_blankets_102 (fun H locs w => ?_)
    rw [← eT1] at w
    obtain ⟨v2, ev2, hR⟩ := lt_e hR
    refine lv_iinc (v := v2) (lv' := [(3, .int v2), (2, .int 0), (0, .ref (ad 52)), (1, .int x1)]) hx hb dX12_blankets_105 hl (k := 3) rfl (by rw [ev2]; rfl) (by decide) rfl (fun ls hl => ?_)
    refine lv_goto (tgt := 29) hx hb dX12_blankets_108 (by decide) ?_
    exact hk29 x1 0 v2 T1 hR _ _ _ w (lv_sub hl [2, 3, 1, 0] rfl)
  have L29 : ∀ (n : Nat), ∀ (x1 : Int32) (x2 : Int32) (x3 : Int32) (T : SS), fX12_blankets_l29 N n x1 x2 x3 T = some (T', r) → WAT p l ev ({ frames := 11, cells := 0, slots := 0, locals := 264 } : Room) s m args below meth c QQ 4 D dA ad t1 t2 S T o 29 [(0, .ref (ad 52)), (1, .int x1), (2, .int x2), (3, .int x3)] [] := by
    intro n
    induction n with
    | zero =>
      intro x1 x2 x3 T hR
      exact nomatch hR
    | succ n ih =>
      intro x1 x2 x3 T hR H locs ls w hl
      rw [fX12_blankets_l29] at hR
      refine lv_iload_n hx hb dX12_blankets_29 rfl (lv_at hl 3 rfl) ?_
      refine lv_aload_n hx hb dX12_blankets_30 rfl (lv_at hl 0 rfl) ?_
      refine gX12_ends X w lfX12_245 dX12_blankets_31 ?_
      refine lv_icmp_ge (tgt := 111) hx hb dX12_blankets_34 (by decide) (fun c1 => ?_) (fun c1 => ?_)
      · rw [if_pos c1] at hR
        refine lv_iconst (v := 0) hx hb dX12_blankets_111 (by decide) ?_
        refine lv_istore_n (lv' := [(3, .int 0), (0, .ref (ad 52)), (1, .int x1), (2, .int x2)]) hx hb dX12_blankets_112 rfl hl (by decide) rfl (fun ls hl => ?_)
        exact L113 N x1 x2 0 T hR _ _ _ w (lv_sub hl [1, 2, 3, 0] rfl)
      · rw [if_neg c1] at hR
        refine lv_aload_n hx hb dX12_blankets_37 rfl (lv_at hl 0 rfl) ?_
        refine lv_iload_n hx hb dX12_blankets_38 rfl (lv_at hl 3 rfl) ?_
        obtain ⟨r3, h2, hR⟩ := bd_e hR
        refine cVi (k := 52) (As := [.int x3]) (rest := []) X hl.1 w okX12_isSold obX12 rfl lmX12_267 (kX12_isSold h2) ⟨Nat.le_of_ble_eq_true rfl, Nat.le_of_ble_eq_true rfl⟩ ⟨rfl, rfl⟩ ⟨Nat.zero_le _, Nat.zero_le _⟩ rfl rfl (Nat.le_of_ble_eq_true rfl) dX12_blankets_39 (fun H locs zr3 w => ?_)
        refine lv_if_ne (tgt := 105) hx hb dX12_blankets_42 (by decide) (fun c4 => ?_) (fun c4 => ?_)
        · rw [if_neg c4] at hR
          obtain ⟨v5, ev5, hR⟩ := lt_e hR
          refine lv_iinc (v := v5) (lv' := [(3, .int v5), (0, .ref (ad 52)), (1, .int x1), (2, .int x2)]) hx hb dX12_blankets_105 hl (k := 3) rfl (by rw [ev5]; rfl) (by decide) rfl (fun ls hl => ?_)
          refine lv_goto (tgt := 29) hx hb dX12_blankets_108 (by decide) ?_
          exact ih x1 x2 v5 T hR _ _ _ w (lv_sub hl [1, 2, 3, 0] rfl)
        · rw [if_pos c4] at hR
          refine lv_aload_n hx hb dX12_blankets_45 rfl (lv_at hl 0 rfl) ?_
          refine gX12_now X w lfX12_52 dX12_blankets_46 ?_
          refine lv_bipush (v := 21) hx hb dX12_blankets_49 (by decide) ?_
          refine lv_iload_n hx hb dX12_blankets_51 rfl (lv_at hl 3 rfl) ?_
          refine lv_iadd hx hb dX12_blankets_52 ?_
          obtain ⟨g6, hR⟩ := ck_e hR
          refine ialT (n := 214) rfl (by decide) X w rfl g6 dX12_blankets_53 ?_
          refine lv_iconst (v := -1) hx hb dX12_blankets_54 (by decide) ?_
          refine lv_icmp_ne (tgt := 105) hx hb dX12_blankets_55 (by decide) (fun c7 => ?_) (fun c7 => ?_)
          · rw [if_neg c7] at hR
            obtain ⟨v8, ev8, hR⟩ := lt_e hR
            refine lv_iinc (v := v8) (lv' := [(3, .int v8), (0, .ref (ad 52)), (1, .int x1), (2, .int x2)]) hx hb dX12_blankets_105 hl (k := 3) rfl (by rw [ev8]; rfl) (by decide) rfl (fun ls hl => ?_)
            refine lv_goto (tgt := 29) hx hb dX12_blankets_108 (by decide) ?_
            exact ih x1 x2 v8 T hR _ _ _ w (lv_sub hl [1, 2, 3, 0] rfl)
          · rw [if_pos c7] at hR
            refine lv_aload_n hx hb dX12_blankets_58 rfl (lv_at hl 0 rfl) ?_
            refine gX12_pieces X w lfX12_74 dX12_blankets_59 ?_
            refine lv_aload_n hx hb dX12_blankets_62 rfl (lv_at hl 0 rfl) ?_
            refine gX12_pieceMany X w lfX12_391 dX12_blankets_63 ?_
            refine lv_aload_n hx hb dX12_blankets_66 rfl (lv_at hl 0 rfl) ?_
            refine lv_iload_n hx hb dX12_blankets_67 rfl (lv_at hl 3 rfl) ?_
            obtain ⟨r10, h9, hR⟩ := bd_e hR
            refine cVi (k := 52) (As := [.int x3]) (rest := [.int (gi T 52 37), .ref (ad 72)]) X hl.1 w okX12_lengthOf obX12 rfl lmX12_303 (kX12_lengthOf h9) ⟨Nat.le_of_ble_eq_true rfl, Nat.le_of_ble_eq_true rfl⟩ ⟨rfl, rfl⟩ ⟨Nat.zero_le _, Nat.zero_le _⟩ rfl rfl (Nat.le_of_ble_eq_true rfl) dX12_blankets_68 (fun H locs zr10 w => ?_)
            obtain ⟨g11, hR⟩ := ck_e hR
            obtain ⟨T12, eT12, hR⟩ := lt_e hR
            refine iasT (n := 7) rfl (by decide) X w rfl g11 dX12_blankets_71 (fun H locs w => ?_)
            rw [← eT12] at w
            refine lv_iload_n hx hb dX12_blankets_72 rfl (lv_at hl 2 rfl) ?_
            refine lv_if_eq (tgt := 93) hx hb dX12_blankets_73 (by decide) (fun c13 => ?_) (fun c13 => ?_)
            · rw [if_pos c13] at hR
              exact J93 _ ih x1 x3 T12 hR _ _ _ w (lv_sub hl [0, 1, 3] rfl)
            · rw [if_neg c13] at hR
              refine lv_aload_n hx hb dX12_blankets_76 rfl (lv_at hl 0 rfl) ?_
              refine gX12_pieces X w lfX12_74 dX12_blankets_77 ?_
              refine lv_aload_n hx hb dX12_blankets_80 rfl (lv_at hl 0 rfl) ?_
              refine gX12_pieceMany X w lfX12_391 dX12_blankets_81 ?_
              obtain ⟨g14, hR⟩ := ck_e hR
              refine ialT (n := 7) rfl (by decide) X w rfl g14 dX12_blankets_84 ?_
              refine lv_iload_n hx hb dX12_blankets_85 rfl (lv_at hl 1 rfl) ?_
              refine lv_icmp_gt (tgt := 93) hx hb dX12_blankets_86 (by decide) (fun c15 => ?_) (fun c15 => ?_)
              · rw [if_pos c15] at hR
                exact J93 _ ih x1 x3 T12 hR _ _ _ w (lv_sub hl [0, 1, 3] rfl)
              · rw [if_neg c15] at hR
                refine lv_iconst (v := 1) hx hb dX12_blankets_89 (by decide) ?_
                refine lv_goto (tgt := 94) hx hb dX12_blankets_90 (by decide) ?_
                refine lv_istore_n (lv' := [(2, .int 1), (0, .ref (ad 52)), (1, .int x1), (3, .int x3)]) hx hb dX12_blankets_94 rfl hl (by decide) rfl (fun ls hl => ?_)
                refine lv_aload_n hx hb dX12_blankets_95 rfl (lv_at hl 1 rfl) ?_
                refine lv_dup hx hb dX12_blankets_96 rfl ?_
                refine gX12_pieceMany X w lfX12_391 dX12_blankets_97 ?_
                refine lv_iconst (v := 1) hx hb dX12_blankets_100 (by decide) ?_
                refine lv_iadd hx hb dX12_blankets_101 ?_
                obtain ⟨T16, eT16, hR⟩ := lt_e hR
                refine pX12_pieceMany X w lfX12_391 dX12_blankets_102 (fun H locs w => ?_)
                rw [← eT16] at w
                obtain ⟨v17, ev17, hR⟩ := lt_e hR
                refine lv_iinc (v := v17) (lv' := [(3, .int v17), (2, .int 1), (0, .ref (ad 52)), (1, .int x1)]) hx hb dX12_blankets_105 hl (k := 3) rfl (by rw [ev17]; rfl) (by decide) rfl (fun ls hl => ?_)
                refine lv_goto (tgt := 29) hx hb dX12_blankets_108 (by decide) ?_
                exact ih x1 1 v17 T16 hR _ _ _ w (lv_sub hl [2, 3, 1, 0] rfl)
  have hl : lv_has ls 4 [(0, .ref (ad 52)), (1, .int p1)] := hl
  unfold fX12_blankets at hR
  refine lv_aload_n hx hb dX12_blankets_0 rfl (lv_at hl 0 rfl) ?_
  refine gX12_ends X w lfX12_245 dX12_blankets_1 ?_
  refine lv_if_eq (tgt := 18) hx hb dX12_blankets_4 (by decide) (fun c1 => ?_) (fun c1 => ?_)
  · rw [if_pos c1] at hR
    refine lv_iconst (v := -1) hx hb dX12_blankets_18 (by decide) ?_
    rw [hQ]
    exact rt_i X hr hlk w hsz rfl rfl (lf2 hR).1 (lf2 hR).2 dX12_blankets_19
  · rw [if_neg c1] at hR
    refine lv_iload_n hx hb dX12_blankets_7 rfl (lv_at hl 1 rfl) ?_
    refine lv_iconst (v := 1) hx hb dX12_blankets_8 (by decide) ?_
    refine lv_sipush (v := 140) hx hb dX12_blankets_9 (by decide) ?_
    obtain ⟨r3, h2, hR⟩ := bd_e hR
    refine cSi (As := [.int p1, .int 1, .int 140]) (rest := []) X hl.1 w okX12_in lmX12_208 (kX12_in h2) ⟨Nat.le_of_ble_eq_true rfl, Nat.le_of_ble_eq_true rfl⟩ ⟨rfl, rfl⟩ ⟨Nat.zero_le _, Nat.zero_le _⟩ rfl rfl (Nat.le_of_ble_eq_true rfl) dX12_blankets_12 (fun H locs zr3 w => ?_)
    refine lv_if_ne (tgt := 20) hx hb dX12_blankets_15 (by decide) (fun c4 => ?_) (fun c4 => ?_)
    · rw [if_neg c4] at hR
      refine lv_aload_n hx hb dX12_blankets_20 rfl (lv_at hl 0 rfl) ?_
      refine lv_iconst (v := 0) hx hb dX12_blankets_21 (by decide) ?_
      obtain ⟨T5, eT5, hR⟩ := lt_e hR
      refine pX12_pieceMany X w lfX12_391 dX12_blankets_22 (fun H locs w => ?_)
      rw [← eT5] at w
      refine lv_iconst (v := 1) hx hb dX12_blankets_25 (by decide) ?_
      refine lv_istore_n (lv' := [(2, .int 1), (0, .ref (ad 52)), (1, .int p1)]) hx hb dX12_blankets_26 rfl hl (by decide) rfl (fun ls hl => ?_)
      refine lv_iconst (v := 0) hx hb dX12_blankets_27 (by decide) ?_
      refine lv_istore_n (lv' := [(3, .int 0), (2, .int 1), (0, .ref (ad 52)), (1, .int p1)]) hx hb dX12_blankets_28 rfl hl (by decide) rfl (fun ls hl => ?_)
      exact L29 N p1 1 0 T5 hR _ _ _ w (lv_sub hl [2, 3, 1, 0] rfl)
    · rw [if_pos c4] at hR
      refine lv_iconst (v := -1) hx hb dX12_blankets_18 (by decide) ?_
      rw [hQ]
      exact rt_i X hr hlk w hsz rfl rfl (lf2 hR).1 (lf2 hR).2 dX12_blankets_19
/- LooseEndsModel.seen(IIZ)I -/
def fX12_seen (N : Nat) (T : SS) (p1 : Int32) (p2 : Int32) (p3 : Int32) : Option (SS × Int32) := bd (fX12_areTwo N T p1 p2) fun r2 =>
  if r2 = 0 then
  (some (T, (-1)))
  else
  (if (gi T 52 42) = 10 then
  (some (T, (-1)))
  else
  (ck (inb (gi T 52 42) 10) <|
  lt (pa T 74 (gi T 52 42) p1) fun T6 =>
  ck (inb (gi T6 52 42) 10) <|
  lt (pa T6 75 (gi T6 52 42) p2) fun T8 =>
  ck (inb (gi T8 52 42) 10) <|
  lt (pa T8 76 (gi T8 52 42) (nb p3)) fun T10 =>
  lt (pj T10 52 42 ((gi T10 52 42) + 1)) fun T11 =>
  some (T11, gi T11 52 42)))
set_option maxHeartbeats 4000000 in
set_option maxRecDepth 100000 in
theorem kX12_seen {l : Launch} {D : va_G} {dA : Nat → ClassId} {ad : Nat → Nat} {t1 t2 : Nat} {N : Nat} {S T : SS} {o : Nat → Int64} {p1 : Int32} {p2 : Int32} {p3 : Int32} {r : Int32} {T' : SS} (hR : fX12_seen N T p1 p2 p3 = some (T', r)) : KI l D dA ad t1 t2 yX12_seen cX12_seen 4 .int { frames := 3, cells := 0, slots := 0, locals := 65 } [.ref (ad 52), .int p1, .int p2, .int p3] S T o r S T' := by
  intro sz
  refine en_ (plainFor_of_name (by decide)) (Nat.le_of_ble_eq_true rfl) ?_
  intro p ev s m args below meth c QQ hQ hsz X hr hlk w ls hl
  have hx := X.1
  have hb := X.2.1
  have hl : lv_has ls 4 [(0, .ref (ad 52)), (1, .int p1), (2, .int p2), (3, .int p3)] := hl
  unfold fX12_seen at hR
  refine lv_aload_n hx hb dX12_seen_0 rfl (lv_at hl 0 rfl) ?_
  refine lv_iload_n hx hb dX12_seen_1 rfl (lv_at hl 1 rfl) ?_
  refine lv_iload_n hx hb dX12_seen_2 rfl (lv_at hl 2 rfl) ?_
  obtain ⟨r2, h1, hR⟩ := bd_e hR
  refine cVi (k := 52) (As := [.int p1, .int p2]) (rest := []) X hl.1 w okX12_areTwo obX12 rfl lmX12_352 (kX12_areTwo h1) ⟨Nat.le_of_ble_eq_true rfl, Nat.le_of_ble_eq_true rfl⟩ ⟨rfl, rfl⟩ ⟨Nat.zero_le _, Nat.zero_le _⟩ rfl rfl (Nat.le_of_ble_eq_true rfl) dX12_seen_3 (fun H locs zr2 w => ?_)
  refine lv_if_eq (tgt := 18) hx hb dX12_seen_6 (by decide) (fun c3 => ?_) (fun c3 => ?_)
  · rw [if_pos c3] at hR
    refine lv_iconst (v := -1) hx hb dX12_seen_18 (by decide) ?_
    rw [hQ]
    exact rt_i X hr hlk w hsz rfl rfl (lf2 hR).1 (lf2 hR).2 dX12_seen_19
  · rw [if_neg c3] at hR
    refine lv_aload_n hx hb dX12_seen_9 rfl (lv_at hl 0 rfl) ?_
    refine gX12_noted X w lfX12_251 dX12_seen_10 ?_
    refine lv_bipush (v := 10) hx hb dX12_seen_13 (by decide) ?_
    refine lv_icmp_ne (tgt := 20) hx hb dX12_seen_15 (by decide) (fun c4 => ?_) (fun c4 => ?_)
    · rw [if_neg c4] at hR
      refine lv_aload_n hx hb dX12_seen_20 rfl (lv_at hl 0 rfl) ?_
      refine gX12_noteOne X w lfX12_80 dX12_seen_21 ?_
      refine lv_aload_n hx hb dX12_seen_24 rfl (lv_at hl 0 rfl) ?_
      refine gX12_noted X w lfX12_251 dX12_seen_25 ?_
      refine lv_iload_n hx hb dX12_seen_28 rfl (lv_at hl 1 rfl) ?_
      obtain ⟨g5, hR⟩ := ck_e hR
      obtain ⟨T6, eT6, hR⟩ := lt_e hR
      refine iasT (n := 10) rfl (by decide) X w rfl g5 dX12_seen_29 (fun H locs w => ?_)
      rw [← eT6] at w
      refine lv_aload_n hx hb dX12_seen_30 rfl (lv_at hl 0 rfl) ?_
      refine gX12_noteOther X w lfX12_83 dX12_seen_31 ?_
      refine lv_aload_n hx hb dX12_seen_34 rfl (lv_at hl 0 rfl) ?_
      refine gX12_noted X w lfX12_251 dX12_seen_35 ?_
      refine lv_iload_n hx hb dX12_seen_38 rfl (lv_at hl 2 rfl) ?_
      obtain ⟨g7, hR⟩ := ck_e hR
      obtain ⟨T8, eT8, hR⟩ := lt_e hR
      refine iasT (n := 10) rfl (by decide) X w rfl g7 dX12_seen_39 (fun H locs w => ?_)
      rw [← eT8] at w
      refine lv_aload_n hx hb dX12_seen_40 rfl (lv_at hl 0 rfl) ?_
      refine gX12_noteIs X w lfX12_86 dX12_seen_41 ?_
      refine lv_aload_n hx hb dX12_seen_44 rfl (lv_at hl 0 rfl) ?_
      refine gX12_noted X w lfX12_251 dX12_seen_45 ?_
      refine lv_iload_n hx hb dX12_seen_48 rfl (lv_at hl 3 rfl) ?_
      obtain ⟨g9, hR⟩ := ck_e hR
      obtain ⟨T10, eT10, hR⟩ := lt_e hR
      refine zasT X w g9 dX12_seen_49 (fun H locs w => ?_)
      rw [← eT10] at w
      refine lv_aload_n hx hb dX12_seen_50 rfl (lv_at hl 0 rfl) ?_
      refine lv_dup hx hb dX12_seen_51 rfl ?_
      refine gX12_noted X w lfX12_251 dX12_seen_52 ?_
      refine lv_iconst (v := 1) hx hb dX12_seen_55 (by decide) ?_
      refine lv_iadd hx hb dX12_seen_56 ?_
      obtain ⟨T11, eT11, hR⟩ := lt_e hR
      refine pX12_noted X w lfX12_251 dX12_seen_57 (fun H locs w => ?_)
      rw [← eT11] at w
      refine lv_aload_n hx hb dX12_seen_60 rfl (lv_at hl 0 rfl) ?_
      refine gX12_noted X w lfX12_251 dX12_seen_61 ?_
      rw [hQ]
      exact rt_i X hr hlk w hsz rfl rfl (lf2 hR).1 (lf2 hR).2 dX12_seen_64
    · rw [if_pos c4] at hR
      refine lv_iconst (v := -1) hx hb dX12_seen_18 (by decide) ?_
      rw [hQ]
      exact rt_i X hr hlk w hsz rfl rfl (lf2 hR).1 (lf2 hR).2 dX12_seen_19
/- LooseEndsModel.goesTold(IIII)Z -/
def fX12_goesTold (N : Nat) (T : SS) (p1 : Int32) (p2 : Int32) (p3 : Int32) (p4 : Int32) : Option (SS × Int32) := bd (fX12_of N T p1 0) fun r2 =>
  bd (fX12_of N T p2 0) fun r4 =>
  bd (fX12_of N T p1 2) fun r6 =>
  bd (fX12_of N T p2 2) fun r8 =>
  b2 (fX12_goesBy N T (ab (r2 - r4)) (ab (p3 - p4)) (r6 + r8) 1 0) fun T11 r10 =>
  some (T11, r10)
set_option maxHeartbeats 4000000 in
set_option maxRecDepth 100000 in
theorem kX12_goesTold {l : Launch} {D : va_G} {dA : Nat → ClassId} {ad : Nat → Nat} {t1 t2 : Nat} {N : Nat} {S T : SS} {o : Nat → Int64} {p1 : Int32} {p2 : Int32} {p3 : Int32} {p4 : Int32} {r : Int32} {T' : SS} (hR : fX12_goesTold N T p1 p2 p3 p4 = some (T', r)) : KI l D dA ad t1 t2 yX12_goesTold cX12_goesTold 5 .boolean { frames := 6, cells := 0, slots := 0, locals := 134 } [.ref (ad 52), .int p1, .int p2, .int p3, .int p4] S T o r S T' := by
  intro sz
  refine en_ (plainFor_of_name (by decide)) (Nat.le_of_ble_eq_true rfl) ?_
  intro p ev s m args below meth c QQ hQ hsz X hr hlk w ls hl
  have hx := X.1
  have hb := X.2.1
  have hl : lv_has ls 5 [(0, .ref (ad 52)), (1, .int p1), (2, .int p2), (3, .int p3), (4, .int p4)] := hl
  unfold fX12_goesTold at hR
  refine lv_aload_n hx hb dX12_goesTold_0 rfl (lv_at hl 0 rfl) ?_
  refine lv_aload_n hx hb dX12_goesTold_1 rfl (lv_at hl 0 rfl) ?_
  refine lv_iload_n hx hb dX12_goesTold_2 rfl (lv_at hl 1 rfl) ?_
  refine lv_iconst (v := 0) hx hb dX12_goesTold_3 (by decide) ?_
  obtain ⟨r2, h1, hR⟩ := bd_e hR
  refine cVi (k := 52) (As := [.int p1, .int 0]) (rest := [.ref (ad 52)]) X hl.1 w okX12_of obX12 rfl lmX12_248 (kX12_of h1) ⟨Nat.le_of_ble_eq_true rfl, Nat.le_of_ble_eq_true rfl⟩ ⟨rfl, rfl⟩ ⟨Nat.zero_le _, Nat.zero_le _⟩ rfl rfl (Nat.le_of_ble_eq_true rfl) dX12_goesTold_4 (fun H locs zr2 w => ?_)
  refine lv_aload_n hx hb dX12_goesTold_7 rfl (lv_at hl 0 rfl) ?_
  refine lv_iload_n hx hb dX12_goesTold_8 rfl (lv_at hl 2 rfl) ?_
  refine lv_iconst (v := 0) hx hb dX12_goesTold_9 (by decide) ?_
  obtain ⟨r4, h3, hR⟩ := bd_e hR
  refine cVi (k := 52) (As := [.int p2, .int 0]) (rest := [.int r2, .ref (ad 52)]) X hl.1 w okX12_of obX12 rfl lmX12_248 (kX12_of h3) ⟨Nat.le_of_ble_eq_true rfl, Nat.le_of_ble_eq_true rfl⟩ ⟨rfl, rfl⟩ ⟨Nat.zero_le _, Nat.zero_le _⟩ rfl rfl (Nat.le_of_ble_eq_true rfl) dX12_goesTold_10 (fun H locs zr4 w => ?_)
  refine lv_isub hx hb dX12_goesTold_13 ?_
  refine abI X hl.1 lmX12_279 ⟨Nat.le_of_ble_eq_true rfl, Nat.le_of_ble_eq_true rfl⟩ ⟨Nat.zero_le _, Nat.zero_le _⟩ dX12_goesTold_14 ?_
  refine lv_iload_n hx hb dX12_goesTold_17 rfl (lv_at hl 3 rfl) ?_
  refine lv_iload hx hb dX12_goesTold_18 (lv_at hl 4 rfl) ?_
  refine lv_isub hx hb dX12_goesTold_20 ?_
  refine abI X hl.1 lmX12_279 ⟨Nat.le_of_ble_eq_true rfl, Nat.le_of_ble_eq_true rfl⟩ ⟨Nat.zero_le _, Nat.zero_le _⟩ dX12_goesTold_21 ?_
  refine lv_aload_n hx hb dX12_goesTold_24 rfl (lv_at hl 0 rfl) ?_
  refine lv_iload_n hx hb dX12_goesTold_25 rfl (lv_at hl 1 rfl) ?_
  refine lv_iconst (v := 2) hx hb dX12_goesTold_26 (by decide) ?_
  obtain ⟨r6, h5, hR⟩ := bd_e hR
  refine cVi (k := 52) (As := [.int p1, .int 2]) (rest := [.int (ab (p3 - p4)), .int (ab (r2 - r4)), .ref (ad 52)]) X hl.1 w okX12_of obX12 rfl lmX12_248 (kX12_of h5) ⟨Nat.le_of_ble_eq_true rfl, Nat.le_of_ble_eq_true rfl⟩ ⟨rfl, rfl⟩ ⟨Nat.zero_le _, Nat.zero_le _⟩ rfl rfl (Nat.le_of_ble_eq_true rfl) dX12_goesTold_27 (fun H locs zr6 w => ?_)
  refine lv_aload_n hx hb dX12_goesTold_30 rfl (lv_at hl 0 rfl) ?_
  refine lv_iload_n hx hb dX12_goesTold_31 rfl (lv_at hl 2 rfl) ?_
  refine lv_iconst (v := 2) hx hb dX12_goesTold_32 (by decide) ?_
  obtain ⟨r8, h7, hR⟩ := bd_e hR
  refine cVi (k := 52) (As := [.int p2, .int 2]) (rest := [.int r6, .int (ab (p3 - p4)), .int (ab (r2 - r4)), .ref (ad 52)]) X hl.1 w okX12_of obX12 rfl lmX12_248 (kX12_of h7) ⟨Nat.le_of_ble_eq_true rfl, Nat.le_of_ble_eq_true rfl⟩ ⟨rfl, rfl⟩ ⟨Nat.zero_le _, Nat.zero_le _⟩ rfl rfl (Nat.le_of_ble_eq_true rfl) dX12_goesTold_33 (fun H locs zr8 w => ?_)
  refine lv_iadd hx hb dX12_goesTold_36 ?_
  refine lv_iconst (v := 1) hx hb dX12_goesTold_37 (by decide) ?_
  refine lv_iconst (v := 0) hx hb dX12_goesTold_38 (by decide) ?_
  obtain ⟨T11, r10, h9, hR⟩ := b2_e hR
  refine cVi (k := 52) (As := [.int (ab (r2 - r4)), .int (ab (p3 - p4)), .int (r6 + r8), .int 1, .int 0]) (rest := []) X hl.1 w okX12_goesBy obX12 rfl lmX12_282 (kX12_goesBy h9) ⟨Nat.le_of_ble_eq_true rfl, Nat.le_of_ble_eq_true rfl⟩ ⟨rfl, rfl⟩ ⟨Nat.zero_le _, Nat.zero_le _⟩ rfl rfl (Nat.le_of_ble_eq_true rfl) dX12_goesTold_39 (fun H locs zr10 w => ?_)
  rw [hQ]
  exact rt_i X hr hlk w hsz zr10 rfl (lf2 hR).1 (lf2 hR).2 dX12_goesTold_42
/- LooseEndsModel.isPly(II)Z -/
def fX12_isPly_j95 (N : Nat) (kc2 : Int32 → Int32 → Int32 → SS → Option (SS × Int32)) (x1 : Int32) (x2 : Int32) (x3 : Int32) (y0 : Int32) (y1 : Int32) (y2 : Int32) (y3 : Int32) (T : SS) : Option (SS × Int32) := b2 (fX12_goesTold N T y3 y2 y1 y0) fun T3 r2 =>
  ck (inb x3 10) <|
  if r2 = (ga T3 76 x3) then
  (lt (x3 + 1) fun v6 =>
  kc2 x1 x2 v6 T3)
  else
  (some (T3, 0))
def fX12_isPly_j75 (N : Nat) (kc2 : Int32 → Int32 → Int32 → SS → Option (SS × Int32)) (x1 : Int32) (x2 : Int32) (x3 : Int32) (x4 : Int32) (y0 : Int32) (y1 : Int32) (y2 : Int32) (T : SS) : Option (SS × Int32) := if x4 = 0 then
  (fX12_isPly_j95 N kc2 x1 x2 x3 x2 y0 y1 y2 T)
  else
  (ck (inb x3 10) <|
  bd (fX12_of N T (ga T 75 x3) 1) fun r4 =>
  fX12_isPly_j95 N kc2 x1 x2 x3 r4 y0 y1 y2 T)
def fX12_isPly_j42 (N : Nat) (kc2 : Int32 → Int32 → Int32 → SS → Option (SS × Int32)) (x1 : Int32) (x2 : Int32) (x3 : Int32) (x4 : Int32) (T : SS) : Option (SS × Int32) := ck (inb x3 10) <|
  ck (inb x3 10) <|
  if x4 = 0 then
  (ck (inb x3 10) <|
  bd (fX12_of N T (ga T 74 x3) 1) fun r6 =>
  fX12_isPly_j75 N kc2 x1 x2 x3 x4 r6 (ga T 75 x3) (ga T 74 x3) T)
  else
  (fX12_isPly_j75 N kc2 x1 x2 x3 x4 x2 (ga T 75 x3) (ga T 74 x3) T)
def fX12_isPly_j25 (N : Nat) (kc2 : Int32 → Int32 → Int32 → SS → Option (SS × Int32)) (x1 : Int32) (x2 : Int32) (x3 : Int32) (y0 : Int32) (T : SS) : Option (SS × Int32) := if y0 = 0 then
  (ck (inb x3 10) <|
  if (ga T 75 x3) = x1 then
  (fX12_isPly_j42 N kc2 x1 x2 x3 y0 T)
  else
  (lt (x3 + 1) fun v4 =>
  kc2 x1 x2 v4 T))
  else
  (fX12_isPly_j42 N kc2 x1 x2 x3 y0 T)
def fX12_isPly_l2 (N : Nat) : Nat → Int32 → Int32 → Int32 → SS → Option (SS × Int32)
  | 0, _, _, _, _ => none
  | n + 1, x1, x2, x3, T => if (gi T 52 42) ≤ x3 then
  (some (T, 1))
  else
  (ck (inb x3 10) <|
  if (ga T 74 x3) = x1 then
  (fX12_isPly_j25 N (fX12_isPly_l2 N n) x1 x2 x3 1 T)
  else
  (fX12_isPly_j25 N (fX12_isPly_l2 N n) x1 x2 x3 0 T))
def fX12_isPly (N : Nat) (T : SS) (p1 : Int32) (p2 : Int32) : Option (SS × Int32) := fX12_isPly_l2 N N p1 p2 0 T
set_option maxHeartbeats 4000000 in
set_option maxRecDepth 100000 in
theorem kX12_isPly {l : Launch} {D : va_G} {dA : Nat → ClassId} {ad : Nat → Nat} {t1 t2 : Nat} {N : Nat} {S T : SS} {o : Nat → Int64} {p1 : Int32} {p2 : Int32} {r : Int32} {T' : SS} (hR : fX12_isPly N T p1 p2 = some (T', r)) : KI l D dA ad t1 t2 yX12_isPly cX12_isPly 5 .boolean { frames := 7, cells := 0, slots := 0, locals := 158 } [.ref (ad 52), .int p1, .int p2] S T o r S T' := by
  intro sz
  refine en_ (plainFor_of_name (by decide)) (Nat.le_of_ble_eq_true rfl) ?_
  intro p ev s m args below meth c QQ hQ hsz X hr hlk w ls hl
  have hx := X.1
  have hb := X.2.1
  have J95 : ∀ (kc2 : Int32 → Int32 → Int32 → SS → Option (SS × Int32)) (_ : ∀ (x1 : Int32) (x2 : Int32) (x3 : Int32) (T : SS), kc2 x1 x2 x3 T = some (T', r) → WAT p l ev ({ frames := 7, cells := 0, slots := 0, locals := 158 } : Room) s m args below meth c QQ 5 D dA ad t1 t2 S T o 2 [(0, .ref (ad 52)), (1, .int x1), (2, .int x2), (3, .int x3)] []), ∀ (x1 : Int32) (x2 : Int32) (x3 : Int32) (y0 : Int32) (y1 : Int32) (y2 : Int32) (y3 : Int32) (T : SS), fX12_isPly_j95 N kc2 x1 x2 x3 y0 y1 y2 y3 T = some (T', r) → WAT p l ev ({ frames := 7, cells := 0, slots := 0, locals := 158 } : Room) s m args below meth c QQ 5 D dA ad t1 t2 S T o 95 [(0, .ref (ad 52)), (1, .int x1), (2, .int x2), (3, .int x3)] [.int y0, .int y1, .int y2, .int y3, .ref (ad 52)] := by
    intro kc2 hk2 x1 x2 x3 y0 y1 y2 y3 T hR H locs ls w hl
    unfold fX12_isPly_j95 at hR
    obtain ⟨T3, r2, h1, hR⟩ := b2_e hR
    refine cVi (k := 52) (As := [.int y3, .int y2, .int y1, .int y0]) (rest := []) X hl.1 w okX12_goesTold obX12 rfl lmX12_397 (kX12_goesTold h1) ⟨Nat.le_of_ble_eq_true rfl, Nat.le_of_ble_eq_true rfl⟩ ⟨rfl, rfl⟩ ⟨Nat.zero_le _, Nat.zero_le _⟩ rfl rfl (Nat.le_of_ble_eq_true rfl) dX12_isPly_95 (fun H locs zr2 w => ?_)
    refine lv_aload_n hx hb dX12_isPly_98 rfl (lv_at hl 0 rfl) ?_
    refine gX12_noteIs X w lfX12_86 dX12_isPly_99 ?_
    refine lv_iload_n hx hb dX12_isPly_102 rfl (lv_at hl 3 rfl) ?_
    obtain ⟨g4, hR⟩ := ck_e hR
    refine zalT X w g4 dX12_isPly_103 ?_
    refine lv_icmp_eq (tgt := 109) hx hb dX12_isPly_104 (by decide) (fun c5 => ?_) (fun c5 => ?_)
    · rw [if_pos c5] at hR
      obtain ⟨v6, ev6, hR⟩ := lt_e hR
      refine lv_iinc (v := v6) (lv' := [(3, .int v6), (0, .ref (ad 52)), (1, .int x1), (2, .int x2)]) hx hb dX12_isPly_109 hl (k := 3) rfl (by rw [ev6]; rfl) (by decide) rfl (fun ls hl => ?_)
      refine lv_goto (tgt := 2) hx hb dX12_isPly_112 (by decide) ?_
      exact hk2 x1 x2 v6 T3 hR _ _ _ w (lv_sub hl [1, 2, 3, 0] rfl)
    · rw [if_neg c5] at hR
      refine lv_iconst (v := 0) hx hb dX12_isPly_107 (by decide) ?_
      rw [hQ]
      exact rt_i X hr hlk w hsz rfl rfl (lf2 hR).1 (lf2 hR).2 dX12_isPly_108
  have J75 : ∀ (kc2 : Int32 → Int32 → Int32 → SS → Option (SS × Int32)) (_ : ∀ (x1 : Int32) (x2 : Int32) (x3 : Int32) (T : SS), kc2 x1 x2 x3 T = some (T', r) → WAT p l ev ({ frames := 7, cells := 0, slots := 0, locals := 158 } : Room) s m args below meth c QQ 5 D dA ad t1 t2 S T o 2 [(0, .ref (ad 52)), (1, .int x1), (2, .int x2), (3, .int x3)] []), ∀ (x1 : Int32) (x2 : Int32) (x3 : Int32) (x4 : Int32) (y0 : Int32) (y1 : Int32) (y2 : Int32) (T : SS), fX12_isPly_j75 N kc2 x1 x2 x3 x4 y0 y1 y2 T = some (T', r) → WAT p l ev ({ frames := 7, cells := 0, slots := 0, locals := 158 } : Room) s m args below meth c QQ 5 D dA ad t1 t2 S T o 75 [(0, .ref (ad 52)), (1, .int x1), (2, .int x2), (3, .int x3), (4, .int x4)] [.int y0, .int y1, .int y2, .ref (ad 52)] := by
    intro kc2 hk2 x1 x2 x3 x4 y0 y1 y2 T hR H locs ls w hl
    unfold fX12_isPly_j75 at hR
    refine lv_iload hx hb dX12_isPly_75 (lv_at hl 4 rfl) ?_
    refine lv_if_eq (tgt := 94) hx hb dX12_isPly_77 (by decide) (fun c1 => ?_) (fun c1 => ?_)
    · rw [if_pos c1] at hR
      refine lv_iload_n hx hb dX12_isPly_94 rfl (lv_at hl 2 rfl) ?_
      exact J95 _ hk2 x1 x2 x3 x2 y0 y1 y2 T hR _ _ _ w (lv_sub hl [0, 1, 2, 3] rfl)
    · rw [if_neg c1] at hR
      refine lv_aload_n hx hb dX12_isPly_80 rfl (lv_at hl 0 rfl) ?_
      refine lv_aload_n hx hb dX12_isPly_81 rfl (lv_at hl 0 rfl) ?_
      refine gX12_noteOther X w lfX12_83 dX12_isPly_82 ?_
      refine lv_iload_n hx hb dX12_isPly_85 rfl (lv_at hl 3 rfl) ?_
      obtain ⟨g2, hR⟩ := ck_e hR
      refine ialT (n := 10) rfl (by decide) X w rfl g2 dX12_isPly_86 ?_
      refine lv_iconst (v := 1) hx hb dX12_isPly_87 (by decide) ?_
      obtain ⟨r4, h3, hR⟩ := bd_e hR
      refine cVi (k := 52) (As := [.int (ga T 75 x3), .int 1]) (rest := [.int y0, .int y1, .int y2, .ref (ad 52)]) X hl.1 w okX12_of obX12 rfl lmX12_248 (kX12_of h3) ⟨Nat.le_of_ble_eq_true rfl, Nat.le_of_ble_eq_true rfl⟩ ⟨rfl, rfl⟩ ⟨Nat.zero_le _, Nat.zero_le _⟩ rfl rfl (Nat.le_of_ble_eq_true rfl) dX12_isPly_88 (fun H locs zr4 w => ?_)
      refine lv_goto (tgt := 95) hx hb dX12_isPly_91 (by decide) ?_
      exact J95 _ hk2 x1 x2 x3 r4 y0 y1 y2 T hR _ _ _ w (lv_sub hl [0, 1, 2, 3] rfl)
  have J42 : ∀ (kc2 : Int32 → Int32 → Int32 → SS → Option (SS × Int32)) (_ : ∀ (x1 : Int32) (x2 : Int32) (x3 : Int32) (T : SS), kc2 x1 x2 x3 T = some (T', r) → WAT p l ev ({ frames := 7, cells := 0, slots := 0, locals := 158 } : Room) s m args below meth c QQ 5 D dA ad t1 t2 S T o 2 [(0, .ref (ad 52)), (1, .int x1), (2, .int x2), (3, .int x3)] []), ∀ (x1 : Int32) (x2 : Int32) (x3 : Int32) (x4 : Int32) (T : SS), fX12_isPly_j42 N kc2 x1 x2 x3 x4 T = some (T', r) → WAT p l ev ({ frames := 7, cells := 0, slots := 0, locals := 158 } : Room) s m args below meth c QQ 5 D dA ad t1 t2 S T o 42 [(0, .ref (ad 52)), (1, .int x1), (2, .int x2), (3, .int x3), (4, .int x4)] [] := by
    intro kc2 hk2 x1 x2 x3 x4 T hR H locs ls w hl
    unfold fX12_isPly_j42 at hR
    refine lv_aload_n hx hb dX12_isPly_42 rfl (lv_at hl 0 rfl) ?_
    refine lv_aload_n hx hb dX12_isPly_43 rfl (lv_at hl 0 rfl) ?_
    refine gX12_noteOne X w lfX12_80 dX12_isPly_44 ?_
    refine lv_iload_n hx hb dX12_isPly_47 rfl (lv_at hl 3 rfl) ?_
    obtain ⟨g1, hR⟩ := ck_e hR
    refine ialT (n := 10) rfl (by decide) X w rfl g1 dX12_isPly_48 ?_
    refine lv_aload_n hx hb dX12_isPly_49 rfl (lv_at hl 0 rfl) ?_
    refine gX12_noteOther X w lfX12_83 dX12_isPly_50 ?_
    refine lv_iload_n hx hb dX12_isPly_53 rfl (lv_at hl 3 rfl) ?_
    obtain ⟨g2, hR⟩ := ck_e hR
    refine ialT (n := 10) rfl (by decide) X w rfl g2 dX12_isPly_54 ?_
    refine lv_iload hx hb dX12_isPly_55 (lv_at hl 4 rfl) ?_
    refine lv_if_eq (tgt := 64) hx hb dX12_isPly_57 (by decide) (fun c3 => ?_) (fun c3 => ?_)
    · rw [if_pos c3] at hR
      refine lv_aload_n hx hb dX12_isPly_64 rfl (lv_at hl 0 rfl) ?_
      refine lv_aload_n hx hb dX12_isPly_65 rfl (lv_at hl 0 rfl) ?_
      refine gX12_noteOne X w lfX12_80 dX12_isPly_66 ?_
      refine lv_iload_n hx hb dX12_isPly_69 rfl (lv_at hl 3 rfl) ?_
      obtain ⟨g4, hR⟩ := ck_e hR
      refine ialT (n := 10) rfl (by decide) X w rfl g4 dX12_isPly_70 ?_
      refine lv_iconst (v := 1) hx hb dX12_isPly_71 (by decide) ?_
      obtain ⟨r6, h5, hR⟩ := bd_e hR
      refine cVi (k := 52) (As := [.int (ga T 74 x3), .int 1]) (rest := [.int (ga T 75 x3), .int (ga T 74 x3), .ref (ad 52)]) X hl.1 w okX12_of obX12 rfl lmX12_248 (kX12_of h5) ⟨Nat.le_of_ble_eq_true rfl, Nat.le_of_ble_eq_true rfl⟩ ⟨rfl, rfl⟩ ⟨Nat.zero_le _, Nat.zero_le _⟩ rfl rfl (Nat.le_of_ble_eq_true rfl) dX12_isPly_72 (fun H locs zr6 w => ?_)
      exact J75 _ hk2 x1 x2 x3 x4 r6 (ga T 75 x3) (ga T 74 x3) T hR _ _ _ w (lv_sub hl [0, 1, 2, 3, 4] rfl)
    · rw [if_neg c3] at hR
      refine lv_iload_n hx hb dX12_isPly_60 rfl (lv_at hl 2 rfl) ?_
      refine lv_goto (tgt := 75) hx hb dX12_isPly_61 (by decide) ?_
      exact J75 _ hk2 x1 x2 x3 x4 x2 (ga T 75 x3) (ga T 74 x3) T hR _ _ _ w (lv_sub hl [0, 1, 2, 3, 4] rfl)
  have J25 : ∀ (kc2 : Int32 → Int32 → Int32 → SS → Option (SS × Int32)) (_ : ∀ (x1 : Int32) (x2 : Int32) (x3 : Int32) (T : SS), kc2 x1 x2 x3 T = some (T', r) → WAT p l ev ({ frames := 7, cells := 0, slots := 0, locals := 158 } : Room) s m args below meth c QQ 5 D dA ad t1 t2 S T o 2 [(0, .ref (ad 52)), (1, .int x1), (2, .int x2), (3, .int x3)] []), ∀ (x1 : Int32) (x2 : Int32) (x3 : Int32) (y0 : Int32) (T : SS), fX12_isPly_j25 N kc2 x1 x2 x3 y0 T = some (T', r) → WAT p l ev ({ frames := 7, cells := 0, slots := 0, locals := 158 } : Room) s m args below meth c QQ 5 D dA ad t1 t2 S T o 25 [(0, .ref (ad 52)), (1, .int x1), (2, .int x2), (3, .int x3)] [.int y0] := by
    intro kc2 hk2 x1 x2 x3 y0 T hR H locs ls w hl
    unfold fX12_isPly_j25 at hR
    refine lv_istore (lv' := [(4, .int y0), (0, .ref (ad 52)), (1, .int x1), (2, .int x2), (3, .int x3)]) hx hb dX12_isPly_25 hl (by decide) rfl (fun ls hl => ?_)
    refine lv_iload hx hb dX12_isPly_27 (lv_at hl 0 rfl) ?_
    refine lv_if_ne (tgt := 42) hx hb dX12_isPly_29 (by decide) (fun c1 => ?_) (fun c1 => ?_)
    · rw [if_neg c1] at hR
      exact J42 _ hk2 x1 x2 x3 y0 T hR _ _ _ w (lv_sub hl [1, 2, 3, 4, 0] rfl)
    · rw [if_pos c1] at hR
      refine lv_aload_n hx hb dX12_isPly_32 rfl (lv_at hl 1 rfl) ?_
      refine gX12_noteOther X w lfX12_83 dX12_isPly_33 ?_
      refine lv_iload_n hx hb dX12_isPly_36 rfl (lv_at hl 4 rfl) ?_
      obtain ⟨g2, hR⟩ := ck_e hR
      refine ialT (n := 10) rfl (by decide) X w rfl g2 dX12_isPly_37 ?_
      refine lv_iload_n hx hb dX12_isPly_38 rfl (lv_at hl 2 rfl) ?_
      refine lv_icmp_ne (tgt := 109) hx hb dX12_isPly_39 (by decide) (fun c3 => ?_) (fun c3 => ?_)
      · rw [if_neg c3] at hR
        obtain ⟨v4, ev4, hR⟩ := lt_e hR
        refine lv_iinc (v := v4) (lv' := [(3, .int v4), (4, .int y0), (0, .ref (ad 52)), (1, .int x1), (2, .int x2)]) hx hb dX12_isPly_109 hl (k := 4) rfl (by rw [ev4]; rfl) (by decide) rfl (fun ls hl => ?_)
        refine lv_goto (tgt := 2) hx hb dX12_isPly_112 (by decide) ?_
        exact hk2 x1 x2 v4 T hR _ _ _ w (lv_sub hl [2, 3, 4, 0] rfl)
      · rw [if_pos c3] at hR
        exact J42 _ hk2 x1 x2 x3 y0 T hR _ _ _ w (lv_sub hl [1, 2, 3, 4, 0] rfl)
  have L2 : ∀ (n : Nat), ∀ (x1 : Int32) (x2 : Int32) (x3 : Int32) (T : SS), fX12_isPly_l2 N n x1 x2 x3 T = some (T', r) → WAT p l ev ({ frames := 7, cells := 0, slots := 0, locals := 158 } : Room) s m args below meth c QQ 5 D dA ad t1 t2 S T o 2 [(0, .ref (ad 52)), (1, .int x1), (2, .int x2), (3, .int x3)] [] := by
    intro n
    induction n with
    | zero =>
      intro x1 x2 x3 T hR
      exact nomatch hR
    | succ n ih =>
      intro x1 x2 x3 T hR H locs ls w hl
      rw [fX12_isPly_l2] at hR
      refine lv_iload_n hx hb dX12_isPly_2 rfl (lv_at hl 3 rfl) ?_
      refine lv_aload_n hx hb dX12_isPly_3 rfl (lv_at hl 0 rfl) ?_
      refine gX12_noted X w lfX12_251 dX12_isPly_4 ?_
      refine lv_icmp_ge (tgt := 115) hx hb dX12_isPly_7 (by decide) (fun c1 => ?_) (fun c1 => ?_)
      · rw [if_pos c1] at hR
        refine lv_iconst (v := 1) hx hb dX12_isPly_115 (by decide) ?_
        rw [hQ]
        exact rt_i X hr hlk w hsz rfl rfl (lf2 hR).1 (lf2 hR).2 dX12_isPly_116
      · rw [if_neg c1] at hR
        refine lv_aload_n hx hb dX12_isPly_10 rfl (lv_at hl 0 rfl) ?_
        refine gX12_noteOne X w lfX12_80 dX12_isPly_11 ?_
        refine lv_iload_n hx hb dX12_isPly_14 rfl (lv_at hl 3 rfl) ?_
        obtain ⟨g2, hR⟩ := ck_e hR
        refine ialT (n := 10) rfl (by decide) X w rfl g2 dX12_isPly_15 ?_
        refine lv_iload_n hx hb dX12_isPly_16 rfl (lv_at hl 1 rfl) ?_
        refine lv_icmp_ne (tgt := 24) hx hb dX12_isPly_17 (by decide) (fun c3 => ?_) (fun c3 => ?_)
        · rw [if_neg c3] at hR
          refine lv_iconst (v := 0) hx hb dX12_isPly_24 (by decide) ?_
          exact J25 _ ih x1 x2 x3 0 T hR _ _ _ w (lv_sub hl [0, 1, 2, 3] rfl)
        · rw [if_pos c3] at hR
          refine lv_iconst (v := 1) hx hb dX12_isPly_20 (by decide) ?_
          refine lv_goto (tgt := 25) hx hb dX12_isPly_21 (by decide) ?_
          exact J25 _ ih x1 x2 x3 1 T hR _ _ _ w (lv_sub hl [0, 1, 2, 3] rfl)
  have hl : lv_has ls 5 [(0, .ref (ad 52)), (1, .int p1), (2, .int p2)] := hl
  unfold fX12_isPly at hR
  refine lv_iconst (v := 0) hx hb dX12_isPly_0 (by decide) ?_
  refine lv_istore_n (lv' := [(3, .int 0), (0, .ref (ad 52)), (1, .int p1), (2, .int p2)]) hx hb dX12_isPly_1 rfl hl (by decide) rfl (fun ls hl => ?_)
  exact L2 N p1 p2 0 T hR _ _ _ w (lv_sub hl [1, 2, 3, 0] rfl)
/- LooseEndsModel.plies(II)I -/
def fX12_plies_l20 (N : Nat) : Nat → Int32 → Int32 → Int32 → Int32 → SS → Option (SS × Int32)
  | 0, _, _, _, _, _ => none
  | n + 1, x1, x2, x3, x4, T => if 6 < x4 then
  (if x2 = (-1) then
  (some (T, x3))
  else
  (some (T, (-1))))
  else
  (b2 (fX12_isPly N T x1 x4) fun T5 r4 =>
  if r4 = 0 then
  (lt (x4 + 1) fun v7 =>
  fX12_plies_l20 N n x1 x2 x3 v7 T5)
  else
  (if x3 = x2 then
  (some (T5, x4))
  else
  (lt (x3 + 1) fun v9 =>
  lt (x4 + 1) fun v10 =>
  fX12_plies_l20 N n x1 x2 v9 v10 T5)))
def fX12_plies (N : Nat) (T : SS) (p1 : Int32) (p2 : Int32) : Option (SS × Int32) := bd (fX12_isEnd N T p1) fun r2 =>
  if r2 = 0 then
  (some (T, (-1)))
  else
  (if (-1) ≤ p2 then
  (fX12_plies_l20 N N p1 p2 0 1 T)
  else
  (some (T, (-1))))
set_option maxHeartbeats 4000000 in
set_option maxRecDepth 100000 in
theorem kX12_plies {l : Launch} {D : va_G} {dA : Nat → ClassId} {ad : Nat → Nat} {t1 t2 : Nat} {N : Nat} {S T : SS} {o : Nat → Int64} {p1 : Int32} {p2 : Int32} {r : Int32} {T' : SS} (hR : fX12_plies N T p1 p2 = some (T', r)) : KI l D dA ad t1 t2 yX12_plies cX12_plies 5 .int { frames := 8, cells := 0, slots := 0, locals := 182 } [.ref (ad 52), .int p1, .int p2] S T o r S T' := by
  intro sz
  refine en_ (plainFor_of_name (by decide)) (Nat.le_of_ble_eq_true rfl) ?_
  intro p ev s m args below meth c QQ hQ hsz X hr hlk w ls hl
  have hx := X.1
  have hb := X.2.1
  have L20 : ∀ (n : Nat), ∀ (x1 : Int32) (x2 : Int32) (x3 : Int32) (x4 : Int32) (T : SS), fX12_plies_l20 N n x1 x2 x3 x4 T = some (T', r) → WAT p l ev ({ frames := 8, cells := 0, slots := 0, locals := 182 } : Room) s m args below meth c QQ 5 D dA ad t1 t2 S T o 20 [(0, .ref (ad 52)), (1, .int x1), (2, .int x2), (3, .int x3), (4, .int x4)] [] := by
    intro n
    induction n with
    | zero =>
      intro x1 x2 x3 x4 T hR
      exact nomatch hR
    | succ n ih =>
      intro x1 x2 x3 x4 T hR H locs ls w hl
      rw [fX12_plies_l20] at hR
      refine lv_iload hx hb dX12_plies_20 (lv_at hl 4 rfl) ?_
      refine lv_bipush (v := 6) hx hb dX12_plies_22 (by decide) ?_
      refine lv_icmp_gt (tgt := 54) hx hb dX12_plies_24 (by decide) (fun c1 => ?_) (fun c1 => ?_)
      · rw [if_pos c1] at hR
        refine lv_iload_n hx hb dX12_plies_54 rfl (lv_at hl 2 rfl) ?_
        refine lv_iconst (v := -1) hx hb dX12_plies_55 (by decide) ?_
        refine lv_icmp_ne (tgt := 63) hx hb dX12_plies_56 (by decide) (fun c2 => ?_) (fun c2 => ?_)
        · rw [if_neg c2] at hR
          refine lv_iconst (v := -1) hx hb dX12_plies_63 (by decide) ?_
          rw [hQ]
          exact rt_i X hr hlk w hsz rfl rfl (lf2 hR).1 (lf2 hR).2 dX12_plies_64
        · rw [if_pos c2] at hR
          refine lv_iload_n hx hb dX12_plies_59 rfl (lv_at hl 3 rfl) ?_
          refine lv_goto (tgt := 64) hx hb dX12_plies_60 (by decide) ?_
          rw [hQ]
          exact rt_i X hr hlk w hsz rfl rfl (lf2 hR).1 (lf2 hR).2 dX12_plies_64
      · rw [if_neg c1] at hR
        refine lv_aload_n hx hb dX12_plies_27 rfl (lv_at hl 0 rfl) ?_
        refine lv_iload_n hx hb dX12_plies_28 rfl (lv_at hl 1 rfl) ?_
        refine lv_iload hx hb dX12_plies_29 (lv_at hl 4 rfl) ?_
        obtain ⟨T5, r4, h3, hR⟩ := b2_e hR
        refine cVi (k := 52) (As := [.int x1, .int x4]) (rest := []) X hl.1 w okX12_isPly obX12 rfl lmX12_401 (kX12_isPly h3) ⟨Nat.le_of_ble_eq_true rfl, Nat.le_of_ble_eq_true rfl⟩ ⟨rfl, rfl⟩ ⟨Nat.zero_le _, Nat.zero_le _⟩ rfl rfl (Nat.le_of_ble_eq_true rfl) dX12_plies_31 (fun H locs zr4 w => ?_)
        refine lv_if_eq (tgt := 48) hx hb dX12_plies_34 (by decide) (fun c6 => ?_) (fun c6 => ?_)
        · rw [if_pos c6] at hR
          obtain ⟨v7, ev7, hR⟩ := lt_e hR
          refine lv_iinc (v := v7) (lv' := [(4, .int v7), (0, .ref (ad 52)), (1, .int x1), (2, .int x2), (3, .int x3)]) hx hb dX12_plies_48 hl (k := 4) rfl (by rw [ev7]; rfl) (by decide) rfl (fun ls hl => ?_)
          refine lv_goto (tgt := 20) hx hb dX12_plies_51 (by decide) ?_
          exact ih x1 x2 x3 v7 T5 hR _ _ _ w (lv_sub hl [1, 2, 3, 4, 0] rfl)
        · rw [if_neg c6] at hR
          refine lv_iload_n hx hb dX12_plies_37 rfl (lv_at hl 3 rfl) ?_
          refine lv_iload_n hx hb dX12_plies_38 rfl (lv_at hl 2 rfl) ?_
          refine lv_icmp_ne (tgt := 45) hx hb dX12_plies_39 (by decide) (fun c8 => ?_) (fun c8 => ?_)
          · rw [if_neg c8] at hR
            obtain ⟨v9, ev9, hR⟩ := lt_e hR
            refine lv_iinc (v := v9) (lv' := [(3, .int v9), (0, .ref (ad 52)), (1, .int x1), (2, .int x2), (4, .int x4)]) hx hb dX12_plies_45 hl (k := 3) rfl (by rw [ev9]; rfl) (by decide) rfl (fun ls hl => ?_)
            obtain ⟨v10, ev10, hR⟩ := lt_e hR
            refine lv_iinc (v := v10) (lv' := [(4, .int v10), (3, .int v9), (0, .ref (ad 52)), (1, .int x1), (2, .int x2)]) hx hb dX12_plies_48 hl (k := 4) rfl (by rw [ev10]; rfl) (by decide) rfl (fun ls hl => ?_)
            refine lv_goto (tgt := 20) hx hb dX12_plies_51 (by decide) ?_
            exact ih x1 x2 v9 v10 T5 hR _ _ _ w (lv_sub hl [2, 3, 4, 1, 0] rfl)
          · rw [if_pos c8] at hR
            refine lv_iload hx hb dX12_plies_42 (lv_at hl 4 rfl) ?_
            rw [hQ]
            exact rt_i X hr hlk w hsz rfl rfl (lf2 hR).1 (lf2 hR).2 dX12_plies_44
  have hl : lv_has ls 5 [(0, .ref (ad 52)), (1, .int p1), (2, .int p2)] := hl
  unfold fX12_plies at hR
  refine lv_aload_n hx hb dX12_plies_0 rfl (lv_at hl 0 rfl) ?_
  refine lv_iload_n hx hb dX12_plies_1 rfl (lv_at hl 1 rfl) ?_
  obtain ⟨r2, h1, hR⟩ := bd_e hR
  refine cVi (k := 52) (As := [.int p1]) (rest := []) X hl.1 w okX12_isEnd obX12 rfl lmX12_306 (kX12_isEnd h1) ⟨Nat.le_of_ble_eq_true rfl, Nat.le_of_ble_eq_true rfl⟩ ⟨rfl, rfl⟩ ⟨Nat.zero_le _, Nat.zero_le _⟩ rfl rfl (Nat.le_of_ble_eq_true rfl) dX12_plies_2 (fun H locs zr2 w => ?_)
  refine lv_if_eq (tgt := 13) hx hb dX12_plies_5 (by decide) (fun c3 => ?_) (fun c3 => ?_)
  · rw [if_pos c3] at hR
    refine lv_iconst (v := -1) hx hb dX12_plies_13 (by decide) ?_
    rw [hQ]
    exact rt_i X hr hlk w hsz rfl rfl (lf2 hR).1 (lf2 hR).2 dX12_plies_14
  · rw [if_neg c3] at hR
    refine lv_iload_n hx hb dX12_plies_8 rfl (lv_at hl 2 rfl) ?_
    refine lv_iconst (v := -1) hx hb dX12_plies_9 (by decide) ?_
    refine lv_icmp_ge (tgt := 15) hx hb dX12_plies_10 (by decide) (fun c4 => ?_) (fun c4 => ?_)
    · rw [if_pos c4] at hR
      refine lv_iconst (v := 0) hx hb dX12_plies_15 (by decide) ?_
      refine lv_istore_n (lv' := [(3, .int 0), (0, .ref (ad 52)), (1, .int p1), (2, .int p2)]) hx hb dX12_plies_16 rfl hl (by decide) rfl (fun ls hl => ?_)
      refine lv_iconst (v := 1) hx hb dX12_plies_17 (by decide) ?_
      refine lv_istore (lv' := [(4, .int 1), (3, .int 0), (0, .ref (ad 52)), (1, .int p1), (2, .int p2)]) hx hb dX12_plies_18 hl (by decide) rfl (fun ls hl => ?_)
      exact L20 N p1 p2 0 1 T hR _ _ _ w (lv_sub hl [2, 3, 4, 1, 0] rfl)
    · rw [if_neg c4] at hR
      refine lv_iconst (v := -1) hx hb dX12_plies_13 (by decide) ?_
      rw [hQ]
      exact rt_i X hr hlk w hsz rfl rfl (lf2 hR).1 (lf2 hR).2 dX12_plies_14
/- LooseEndsModel.ask(I)I -/
def fX12_ask_j124 (N : Nat) (kc27 : Int32 → Int32 → Int32 → Int32 → SS → Option (SS × Int32)) (x1 : Int32) (x4 : Int32) (x5 : Int32) (T : SS) : Option (SS × Int32) := lt (ab x5) fun v1 =>
  lt (x4 + 1) fun v2 =>
  kc27 x1 x4 v1 v2 T
def fX12_ask_l42 (N : Nat) (kc27 : Int32 → Int32 → Int32 → Int32 → SS → Option (SS × Int32)) : Nat → Int32 → Int32 → Int32 → Int32 → Int32 → Int32 → SS → Option (SS × Int32)
  | 0, _, _, _, _, _, _, _ => none
  | n + 1, x1, x2, x3, x4, x5, x6, T => if 6 < x6 then
  (if x4 = x1 then
  (lt (x4 + 1) fun v3 =>
  kc27 x1 x2 x3 v3 T)
  else
  (if x2 = (-1) then
  (fX12_ask_j124 N kc27 x1 x4 x5 T)
  else
  (if x3 ≤ (ab x5) then
  (lt (x4 + 1) fun v6 =>
  kc27 x1 x2 x3 v6 T)
  else
  (fX12_ask_j124 N kc27 x1 x4 x5 T))))
  else
  (if x4 = x1 then
  (lt (x5 + 0) fun v8 =>
  lt (x6 + 1) fun v9 =>
  fX12_ask_l42 N kc27 n x1 x2 x3 x4 v8 v9 T)
  else
  (b2 (fX12_isPly N T x1 x6) fun T12 r11 =>
  if r11 = 0 then
  (lt (x5 + 0) fun v24 =>
  lt (x6 + 1) fun v25 =>
  fX12_ask_l42 N kc27 n x1 x2 x3 x4 v24 v25 T12)
  else
  (bd (fX12_of N T12 x4 1) fun r15 =>
  b2 (fX12_goesTold N T12 x1 x4 x6 r15) fun T18 r17 =>
  if r17 = 0 then
  (lt (x5 + (-1)) fun v20 =>
  lt (x6 + 1) fun v21 =>
  fX12_ask_l42 N kc27 n x1 x2 x3 x4 v20 v21 T18)
  else
  (lt (x5 + 1) fun v22 =>
  lt (x6 + 1) fun v23 =>
  fX12_ask_l42 N kc27 n x1 x2 x3 x4 v22 v23 T18))))
def fX12_ask_l27 (N : Nat) : Nat → Int32 → Int32 → Int32 → Int32 → SS → Option (SS × Int32)
  | 0, _, _, _, _, _ => none
  | n + 1, x1, x2, x3, x4, T => if (gi T 52 22) ≤ x4 then
  (some (T, x2))
  else
  (fX12_ask_l42 N (fX12_ask_l27 N n) N x1 x2 x3 x4 0 1 T)
def fX12_ask (N : Nat) (T : SS) (p1 : Int32) : Option (SS × Int32) := bd (fX12_isEnd N T p1) fun r2 =>
  if r2 = 0 then
  (some (T, (-1)))
  else
  (b2 (fX12_plies N T p1 0) fun T6 r5 =>
  if r5 = (-1) then
  (some (T6, (-1)))
  else
  (lt ((-1)) fun v8 =>
  fX12_ask_l27 N N p1 v8 0 0 T6))
set_option maxHeartbeats 4000000 in
set_option maxRecDepth 100000 in
theorem kX12_ask {l : Launch} {D : va_G} {dA : Nat → ClassId} {ad : Nat → Nat} {t1 t2 : Nat} {N : Nat} {S T : SS} {o : Nat → Int64} {p1 : Int32} {r : Int32} {T' : SS} (hR : fX12_ask N T p1 = some (T', r)) : KI l D dA ad t1 t2 yX12_ask cX12_ask 7 .int { frames := 9, cells := 0, slots := 0, locals := 206 } [.ref (ad 52), .int p1] S T o r S T' := by
  intro sz
  refine en_ (plainFor_of_name (by decide)) (Nat.le_of_ble_eq_true rfl) ?_
  intro p ev s m args below meth c QQ hQ hsz X hr hlk w ls hl
  have hx := X.1
  have hb := X.2.1
  have J124 : ∀ (kc27 : Int32 → Int32 → Int32 → Int32 → SS → Option (SS × Int32)) (_ : ∀ (x1 : Int32) (x2 : Int32) (x3 : Int32) (x4 : Int32) (T : SS), kc27 x1 x2 x3 x4 T = some (T', r) → WAT p l ev ({ frames := 9, cells := 0, slots := 0, locals := 206 } : Room) s m args below meth c QQ 7 D dA ad t1 t2 S T o 27 [(0, .ref (ad 52)), (1, .int x1), (2, .int x2), (3, .int x3), (4, .int x4)] []), ∀ (x1 : Int32) (x4 : Int32) (x5 : Int32) (T : SS), fX12_ask_j124 N kc27 x1 x4 x5 T = some (T', r) → WAT p l ev ({ frames := 9, cells := 0, slots := 0, locals := 206 } : Room) s m args below meth c QQ 7 D dA ad t1 t2 S T o 124 [(0, .ref (ad 52)), (1, .int x1), (4, .int x4), (5, .int x5)] [] := by
    intro kc27 hk27 x1 x4 x5 T hR H locs ls w hl
    unfold fX12_ask_j124 at hR
    refine lv_iload hx hb dX12_ask_124 (lv_at hl 2 rfl) ?_
    refine lv_istore_n (lv' := [(2, .int x4), (0, .ref (ad 52)), (1, .int x1), (4, .int x4), (5, .int x5)]) hx hb dX12_ask_126 rfl hl (by decide) rfl (fun ls hl => ?_)
    refine lv_iload hx hb dX12_ask_127 (lv_at hl 4 rfl) ?_
    refine abI X hl.1 lmX12_279 ⟨Nat.le_of_ble_eq_true rfl, Nat.le_of_ble_eq_true rfl⟩ ⟨Nat.zero_le _, Nat.zero_le _⟩ dX12_ask_129 ?_
    obtain ⟨v1, ev1, hR⟩ := lt_e hR
    refine nm_i ev1 ?_
    refine lv_istore_n (lv' := [(3, .int v1), (2, .int x4), (0, .ref (ad 52)), (1, .int x1), (4, .int x4), (5, .int x5)]) hx hb dX12_ask_132 rfl hl (by decide) rfl (fun ls hl => ?_)
    obtain ⟨v2, ev2, hR⟩ := lt_e hR
    refine lv_iinc (v := v2) (lv' := [(4, .int v2), (3, .int v1), (2, .int x4), (0, .ref (ad 52)), (1, .int x1), (5, .int x5)]) hx hb dX12_ask_133 hl (k := 4) rfl (by rw [ev2]; rfl) (by decide) rfl (fun ls hl => ?_)
    refine lv_goto (tgt := 27) hx hb dX12_ask_136 (by decide) ?_
    exact hk27 x1 x4 v1 v2 T hR _ _ _ w (lv_sub hl [3, 4, 2, 1, 0] rfl)
  have L42 : ∀ (kc27 : Int32 → Int32 → Int32 → Int32 → SS → Option (SS × Int32)) (_ : ∀ (x1 : Int32) (x2 : Int32) (x3 : Int32) (x4 : Int32) (T : SS), kc27 x1 x2 x3 x4 T = some (T', r) → WAT p l ev ({ frames := 9, cells := 0, slots := 0, locals := 206 } : Room) s m args below meth c QQ 7 D dA ad t1 t2 S T o 27 [(0, .ref (ad 52)), (1, .int x1), (2, .int x2), (3, .int x3), (4, .int x4)] []) (n : Nat), ∀ (x1 : Int32) (x2 : Int32) (x3 : Int32) (x4 : Int32) (x5 : Int32) (x6 : Int32) (T : SS), fX12_ask_l42 N kc27 n x1 x2 x3 x4 x5 x6 T = some (T', r) → WAT p l ev ({ frames := 9, cells := 0, slots := 0, locals := 206 } : Room) s m args below meth c QQ 7 D dA ad t1 t2 S T o 42 [(0, .ref (ad 52)), (1, .int x1), (2, .int x2), (3, .int x3), (4, .int x4), (5, .int x5), (6, .int x6)] [] := by
    intro kc27 hk27 n
    induction n with
    | zero =>
      intro x1 x2 x3 x4 x5 x6 T hR
      exact nomatch hR
    | succ n ih =>
      intro x1 x2 x3 x4 x5 x6 T hR H locs ls w hl
      rw [fX12_ask_l42] at hR
      refine lv_iload hx hb dX12_ask_42 (lv_at hl 6 rfl) ?_
      refine lv_bipush (v := 6) hx hb dX12_ask_44 (by decide) ?_
      refine lv_icmp_gt (tgt := 104) hx hb dX12_ask_46 (by decide) (fun c1 => ?_) (fun c1 => ?_)
      · rw [if_pos c1] at hR
        refine lv_iload hx hb dX12_ask_104 (lv_at hl 4 rfl) ?_
        refine lv_iload_n hx hb dX12_ask_106 rfl (lv_at hl 1 rfl) ?_
        refine lv_icmp_eq (tgt := 133) hx hb dX12_ask_107 (by decide) (fun c2 => ?_) (fun c2 => ?_)
        · rw [if_pos c2] at hR
          obtain ⟨v3, ev3, hR⟩ := lt_e hR
          refine lv_iinc (v := v3) (lv' := [(4, .int v3), (0, .ref (ad 52)), (1, .int x1), (2, .int x2), (3, .int x3), (5, .int x5), (6, .int x6)]) hx hb dX12_ask_133 hl (k := 4) rfl (by rw [ev3]; rfl) (by decide) rfl (fun ls hl => ?_)
          refine lv_goto (tgt := 27) hx hb dX12_ask_136 (by decide) ?_
          exact hk27 x1 x2 x3 v3 T hR _ _ _ w (lv_sub hl [1, 2, 3, 4, 0] rfl)
        · rw [if_neg c2] at hR
          refine lv_iload_n hx hb dX12_ask_110 rfl (lv_at hl 2 rfl) ?_
          refine lv_iconst (v := -1) hx hb dX12_ask_111 (by decide) ?_
          refine lv_icmp_eq (tgt := 124) hx hb dX12_ask_112 (by decide) (fun c4 => ?_) (fun c4 => ?_)
          · rw [if_pos c4] at hR
            exact J124 _ hk27 x1 x4 x5 T hR _ _ _ w (lv_sub hl [0, 1, 4, 5] rfl)
          · rw [if_neg c4] at hR
            refine lv_iload hx hb dX12_ask_115 (lv_at hl 5 rfl) ?_
            refine abI X hl.1 lmX12_279 ⟨Nat.le_of_ble_eq_true rfl, Nat.le_of_ble_eq_true rfl⟩ ⟨Nat.zero_le _, Nat.zero_le _⟩ dX12_ask_117 ?_
            refine lv_iload_n hx hb dX12_ask_120 rfl (lv_at hl 3 rfl) ?_
            refine lv_icmp_ge (tgt := 133) hx hb dX12_ask_121 (by decide) (fun c5 => ?_) (fun c5 => ?_)
            · rw [if_pos c5] at hR
              obtain ⟨v6, ev6, hR⟩ := lt_e hR
              refine lv_iinc (v := v6) (lv' := [(4, .int v6), (0, .ref (ad 52)), (1, .int x1), (2, .int x2), (3, .int x3), (5, .int x5), (6, .int x6)]) hx hb dX12_ask_133 hl (k := 4) rfl (by rw [ev6]; rfl) (by decide) rfl (fun ls hl => ?_)
              refine lv_goto (tgt := 27) hx hb dX12_ask_136 (by decide) ?_
              exact hk27 x1 x2 x3 v6 T hR _ _ _ w (lv_sub hl [1, 2, 3, 4, 0] rfl)
            · rw [if_neg c5] at hR
              exact J124 _ hk27 x1 x4 x5 T hR _ _ _ w (lv_sub hl [0, 1, 4, 5] rfl)
      · rw [if_neg c1] at hR
        refine lv_iload hx hb dX12_ask_49 (lv_at hl 5 rfl) ?_
        refine lv_iload hx hb dX12_ask_51 (lv_at hl 4 rfl) ?_
        refine lv_iload_n hx hb dX12_ask_53 rfl (lv_at hl 1 rfl) ?_
        refine lv_icmp_eq (tgt := 67) hx hb dX12_ask_54 (by decide) (fun c7 => ?_) (fun c7 => ?_)
        · rw [if_pos c7] at hR
          refine lv_iconst (v := 0) hx hb dX12_ask_67 (by decide) ?_
          refine lv_goto (tgt := 95) hx hb dX12_ask_68 (by decide) ?_
          refine lv_iadd hx hb dX12_ask_95 ?_
          obtain ⟨v8, ev8, hR⟩ := lt_e hR
          refine nm_i ev8 ?_
          refine lv_istore (lv' := [(5, .int v8), (0, .ref (ad 52)), (1, .int x1), (2, .int x2), (3, .int x3), (4, .int x4), (6, .int x6)]) hx hb dX12_ask_96 hl (by decide) rfl (fun ls hl => ?_)
          obtain ⟨v9, ev9, hR⟩ := lt_e hR
          refine lv_iinc (v := v9) (lv' := [(6, .int v9), (5, .int v8), (0, .ref (ad 52)), (1, .int x1), (2, .int x2), (3, .int x3), (4, .int x4)]) hx hb dX12_ask_98 hl (k := 6) rfl (by rw [ev9]; rfl) (by decide) rfl (fun ls hl => ?_)
          refine lv_goto (tgt := 42) hx hb dX12_ask_101 (by decide) ?_
          exact ih x1 x2 x3 x4 v8 v9 T hR _ _ _ w (lv_sub hl [2, 3, 4, 5, 6, 1, 0] rfl)
        · rw [if_neg c7] at hR
          refine lv_aload_n hx hb dX12_ask_57 rfl (lv_at hl 0 rfl) ?_
          refine lv_iload_n hx hb dX12_ask_58 rfl (lv_at hl 1 rfl) ?_
          refine lv_iload hx hb dX12_ask_59 (lv_at hl 6 rfl) ?_
          obtain ⟨T12, r11, h10, hR⟩ := b2_e hR
          refine cVi (k := 52) (As := [.int x1, .int x6]) (rest := [.int x5]) X hl.1 w okX12_isPly obX12 rfl lmX12_401 (kX12_isPly h10) ⟨Nat.le_of_ble_eq_true rfl, Nat.le_of_ble_eq_true rfl⟩ ⟨rfl, rfl⟩ ⟨Nat.zero_le _, Nat.zero_le _⟩ rfl rfl (Nat.le_of_ble_eq_true rfl) dX12_ask_61 (fun H locs zr11 w => ?_)
          refine lv_if_ne (tgt := 71) hx hb dX12_ask_64 (by decide) (fun c13 => ?_) (fun c13 => ?_)
          · rw [if_neg c13] at hR
            refine lv_aload_n hx hb dX12_ask_71 rfl (lv_at hl 0 rfl) ?_
            refine lv_iload_n hx hb dX12_ask_72 rfl (lv_at hl 1 rfl) ?_
            refine lv_iload hx hb dX12_ask_73 (lv_at hl 4 rfl) ?_
            refine lv_iload hx hb dX12_ask_75 (lv_at hl 6 rfl) ?_
            refine lv_aload_n hx hb dX12_ask_77 rfl (lv_at hl 0 rfl) ?_
            refine lv_iload hx hb dX12_ask_78 (lv_at hl 4 rfl) ?_
            refine lv_iconst (v := 1) hx hb dX12_ask_80 (by decide) ?_
            obtain ⟨r15, h14, hR⟩ := bd_e hR
            refine cVi (k := 52) (As := [.int x4, .int 1]) (rest := [.int x6, .int x4, .int x1, .ref (ad 52), .int x5]) X hl.1 w okX12_of obX12 rfl lmX12_248 (kX12_of h14) ⟨Nat.le_of_ble_eq_true rfl, Nat.le_of_ble_eq_true rfl⟩ ⟨rfl, rfl⟩ ⟨Nat.zero_le _, Nat.zero_le _⟩ rfl rfl (Nat.le_of_ble_eq_true rfl) dX12_ask_81 (fun H locs zr15 w => ?_)
            obtain ⟨T18, r17, h16, hR⟩ := b2_e hR
            refine cVi (k := 52) (As := [.int x1, .int x4, .int x6, .int r15]) (rest := [.int x5]) X hl.1 w okX12_goesTold obX12 rfl lmX12_397 (kX12_goesTold h16) ⟨Nat.le_of_ble_eq_true rfl, Nat.le_of_ble_eq_true rfl⟩ ⟨rfl, rfl⟩ ⟨Nat.zero_le _, Nat.zero_le _⟩ rfl rfl (Nat.le_of_ble_eq_true rfl) dX12_ask_84 (fun H locs zr17 w => ?_)
            refine lv_if_eq (tgt := 94) hx hb dX12_ask_87 (by decide) (fun c19 => ?_) (fun c19 => ?_)
            · rw [if_pos c19] at hR
              refine lv_iconst (v := -1) hx hb dX12_ask_94 (by decide) ?_
              refine lv_iadd hx hb dX12_ask_95 ?_
              obtain ⟨v20, ev20, hR⟩ := lt_e hR
              refine nm_i ev20 ?_
              refine lv_istore (lv' := [(5, .int v20), (0, .ref (ad 52)), (1, .int x1), (2, .int x2), (3, .int x3), (4, .int x4), (6, .int x6)]) hx hb dX12_ask_96 hl (by decide) rfl (fun ls hl => ?_)
              obtain ⟨v21, ev21, hR⟩ := lt_e hR
              refine lv_iinc (v := v21) (lv' := [(6, .int v21), (5, .int v20), (0, .ref (ad 52)), (1, .int x1), (2, .int x2), (3, .int x3), (4, .int x4)]) hx hb dX12_ask_98 hl (k := 6) rfl (by rw [ev21]; rfl) (by decide) rfl (fun ls hl => ?_)
              refine lv_goto (tgt := 42) hx hb dX12_ask_101 (by decide) ?_
              exact ih x1 x2 x3 x4 v20 v21 T18 hR _ _ _ w (lv_sub hl [2, 3, 4, 5, 6, 1, 0] rfl)
            · rw [if_neg c19] at hR
              refine lv_iconst (v := 1) hx hb dX12_ask_90 (by decide) ?_
              refine lv_goto (tgt := 95) hx hb dX12_ask_91 (by decide) ?_
              refine lv_iadd hx hb dX12_ask_95 ?_
              obtain ⟨v22, ev22, hR⟩ := lt_e hR
              refine nm_i ev22 ?_
              refine lv_istore (lv' := [(5, .int v22), (0, .ref (ad 52)), (1, .int x1), (2, .int x2), (3, .int x3), (4, .int x4), (6, .int x6)]) hx hb dX12_ask_96 hl (by decide) rfl (fun ls hl => ?_)
              obtain ⟨v23, ev23, hR⟩ := lt_e hR
              refine lv_iinc (v := v23) (lv' := [(6, .int v23), (5, .int v22), (0, .ref (ad 52)), (1, .int x1), (2, .int x2), (3, .int x3), (4, .int x4)]) hx hb dX12_ask_98 hl (k := 6) rfl (by rw [ev23]; rfl) (by decide) rfl (fun ls hl => ?_)
              refine lv_goto (tgt := 42) hx hb dX12_ask_101 (by decide) ?_
              exact ih x1 x2 x3 x4 v22 v23 T18 hR _ _ _ w (lv_sub hl [2, 3, 4, 5, 6, 1, 0] rfl)
          · rw [if_pos c13] at hR
            refine lv_iconst (v := 0) hx hb dX12_ask_67 (by decide) ?_
            refine lv_goto (tgt := 95) hx hb dX12_ask_68 (by decide) ?_
            refine lv_iadd hx hb dX12_ask_95 ?_
            obtain ⟨v24, ev24, hR⟩ := lt_e hR
            refine nm_i ev24 ?_
            refine lv_istore (lv' := [(5, .int v24), (0, .ref (ad 52)), (1, .int x1), (2, .int x2), (3, .int x3), (4, .int x4), (6, .int x6)]) hx hb dX12_ask_96 hl (by decide) rfl (fun ls hl => ?_)
            obtain ⟨v25, ev25, hR⟩ := lt_e hR
            refine lv_iinc (v := v25) (lv' := [(6, .int v25), (5, .int v24), (0, .ref (ad 52)), (1, .int x1), (2, .int x2), (3, .int x3), (4, .int x4)]) hx hb dX12_ask_98 hl (k := 6) rfl (by rw [ev25]; rfl) (by decide) rfl (fun ls hl => ?_)
            refine lv_goto (tgt := 42) hx hb dX12_ask_101 (by decide) ?_
            exact ih x1 x2 x3 x4 v24 v25 T12 hR _ _ _ w (lv_sub hl [2, 3, 4, 5, 6, 1, 0] rfl)
  have L27 : ∀ (n : Nat), ∀ (x1 : Int32) (x2 : Int32) (x3 : Int32) (x4 : Int32) (T : SS), fX12_ask_l27 N n x1 x2 x3 x4 T = some (T', r) → WAT p l ev ({ frames := 9, cells := 0, slots := 0, locals := 206 } : Room) s m args below meth c QQ 7 D dA ad t1 t2 S T o 27 [(0, .ref (ad 52)), (1, .int x1), (2, .int x2), (3, .int x3), (4, .int x4)] [] := by
    intro n
    induction n with
    | zero =>
      intro x1 x2 x3 x4 T hR
      exact nomatch hR
    | succ n ih =>
      intro x1 x2 x3 x4 T hR H locs ls w hl
      rw [fX12_ask_l27] at hR
      refine lv_iload hx hb dX12_ask_27 (lv_at hl 4 rfl) ?_
      refine lv_aload_n hx hb dX12_ask_29 rfl (lv_at hl 0 rfl) ?_
      refine gX12_ends X w lfX12_245 dX12_ask_30 ?_
      refine lv_icmp_ge (tgt := 139) hx hb dX12_ask_33 (by decide) (fun c1 => ?_) (fun c1 => ?_)
      · rw [if_pos c1] at hR
        refine lv_iload_n hx hb dX12_ask_139 rfl (lv_at hl 2 rfl) ?_
        rw [hQ]
        exact rt_i X hr hlk w hsz rfl rfl (lf2 hR).1 (lf2 hR).2 dX12_ask_140
      · rw [if_neg c1] at hR
        refine lv_iconst (v := 0) hx hb dX12_ask_36 (by decide) ?_
        refine lv_istore (lv' := [(5, .int 0), (0, .ref (ad 52)), (1, .int x1), (2, .int x2), (3, .int x3), (4, .int x4)]) hx hb dX12_ask_37 hl (by decide) rfl (fun ls hl => ?_)
        refine lv_iconst (v := 1) hx hb dX12_ask_39 (by decide) ?_
        refine lv_istore (lv' := [(6, .int 1), (5, .int 0), (0, .ref (ad 52)), (1, .int x1), (2, .int x2), (3, .int x3), (4, .int x4)]) hx hb dX12_ask_40 hl (by decide) rfl (fun ls hl => ?_)
        exact L42 _ ih N x1 x2 x3 x4 0 1 T hR _ _ _ w (lv_sub hl [2, 3, 4, 5, 6, 1, 0] rfl)
  have hl : lv_has ls 7 [(0, .ref (ad 52)), (1, .int p1)] := hl
  unfold fX12_ask at hR
  refine lv_aload_n hx hb dX12_ask_0 rfl (lv_at hl 0 rfl) ?_
  refine lv_iload_n hx hb dX12_ask_1 rfl (lv_at hl 1 rfl) ?_
  obtain ⟨r2, h1, hR⟩ := bd_e hR
  refine cVi (k := 52) (As := [.int p1]) (rest := []) X hl.1 w okX12_isEnd obX12 rfl lmX12_306 (kX12_isEnd h1) ⟨Nat.le_of_ble_eq_true rfl, Nat.le_of_ble_eq_true rfl⟩ ⟨rfl, rfl⟩ ⟨Nat.zero_le _, Nat.zero_le _⟩ rfl rfl (Nat.le_of_ble_eq_true rfl) dX12_ask_2 (fun H locs zr2 w => ?_)
  refine lv_if_eq (tgt := 18) hx hb dX12_ask_5 (by decide) (fun c3 => ?_) (fun c3 => ?_)
  · rw [if_pos c3] at hR
    refine lv_iconst (v := -1) hx hb dX12_ask_18 (by decide) ?_
    rw [hQ]
    exact rt_i X hr hlk w hsz rfl rfl (lf2 hR).1 (lf2 hR).2 dX12_ask_19
  · rw [if_neg c3] at hR
    refine lv_aload_n hx hb dX12_ask_8 rfl (lv_at hl 0 rfl) ?_
    refine lv_iload_n hx hb dX12_ask_9 rfl (lv_at hl 1 rfl) ?_
    refine lv_iconst (v := 0) hx hb dX12_ask_10 (by decide) ?_
    obtain ⟨T6, r5, h4, hR⟩ := b2_e hR
    refine cVi (k := 52) (As := [.int p1, .int 0]) (rest := []) X hl.1 w okX12_plies obX12 rfl lmX12_404 (kX12_plies h4) ⟨Nat.le_of_ble_eq_true rfl, Nat.le_of_ble_eq_true rfl⟩ ⟨rfl, rfl⟩ ⟨Nat.zero_le _, Nat.zero_le _⟩ rfl rfl (Nat.le_of_ble_eq_true rfl) dX12_ask_11 (fun H locs zr5 w => ?_)
    refine lv_iconst (v := -1) hx hb dX12_ask_14 (by decide) ?_
    refine lv_icmp_ne (tgt := 20) hx hb dX12_ask_15 (by decide) (fun c7 => ?_) (fun c7 => ?_)
    · rw [if_neg c7] at hR
      refine lv_iconst (v := -1) hx hb dX12_ask_20 (by decide) ?_
      obtain ⟨v8, ev8, hR⟩ := lt_e hR
      refine nm_i ev8 ?_
      refine lv_istore_n (lv' := [(2, .int v8), (0, .ref (ad 52)), (1, .int p1)]) hx hb dX12_ask_21 rfl hl (by decide) rfl (fun ls hl => ?_)
      refine lv_iconst (v := 0) hx hb dX12_ask_22 (by decide) ?_
      refine lv_istore_n (lv' := [(3, .int 0), (2, .int v8), (0, .ref (ad 52)), (1, .int p1)]) hx hb dX12_ask_23 rfl hl (by decide) rfl (fun ls hl => ?_)
      refine lv_iconst (v := 0) hx hb dX12_ask_24 (by decide) ?_
      refine lv_istore (lv' := [(4, .int 0), (3, .int 0), (2, .int v8), (0, .ref (ad 52)), (1, .int p1)]) hx hb dX12_ask_25 hl (by decide) rfl (fun ls hl => ?_)
      exact L27 N p1 v8 0 0 T6 hR _ _ _ w (lv_sub hl [3, 4, 2, 1, 0] rfl)
    · rw [if_pos c7] at hR
      refine lv_iconst (v := -1) hx hb dX12_ask_18 (by decide) ?_
      rw [hQ]
      exact rt_i X hr hlk w hsz rfl rfl (lf2 hR).1 (lf2 hR).2 dX12_ask_19
/- LooseEndsModel.gameOf(IIII)I -/
def fX12_gameOf_l61 (N : Nat) : Nat → Int32 → Int32 → Int32 → Int32 → Int32 → Int32 → Int32 → SS → Option (SS × Int32)
  | 0, _, _, _, _, _, _, _, _ => none
  | n + 1, x1, x2, x3, x5, x6, x7, x8, T => if (gi T 52 22) ≤ x8 then
  (ck (inb (0 + x1) 214) <|
  lt (pa T 67 (0 + x1) x5) fun T3 =>
  ck (inb (0 + x2) 214) <|
  lt (pa T3 67 (0 + x2) x6) fun T5 =>
  some (T5, x7 - x3))
  else
  (if x8 = x1 then
  (lt (x7 + 0) fun v7 =>
  lt (x8 + 1) fun v8 =>
  fX12_gameOf_l61 N n x1 x2 x3 x5 x6 v7 v8 T)
  else
  (b2 (fX12_goesWith N T x1 x8 1) fun T11 r10 =>
  if r10 = 0 then
  (b2 (fX12_goesWith N T11 x8 x1 1) fun T17 r16 =>
  if r16 = 0 then
  (lt (x7 + 0) fun v19 =>
  lt (x8 + 1) fun v20 =>
  fX12_gameOf_l61 N n x1 x2 x3 x5 x6 v19 v20 T17)
  else
  (lt (x7 + 1) fun v21 =>
  lt (x8 + 1) fun v22 =>
  fX12_gameOf_l61 N n x1 x2 x3 x5 x6 v21 v22 T17))
  else
  (lt (x7 + 1) fun v13 =>
  lt (x8 + 1) fun v14 =>
  fX12_gameOf_l61 N n x1 x2 x3 x5 x6 v13 v14 T11)))
def fX12_gameOf (N : Nat) (T : SS) (p1 : Int32) (p2 : Int32) (p3 : Int32) (p4 : Int32) : Option (SS × Int32) := ck (inb (0 + p1) 214) <|
  lt (ga T 67 (0 + p1)) fun v2 =>
  ck (inb (0 + p2) 214) <|
  lt (ga T 67 (0 + p2)) fun v4 =>
  ck (inb (0 + p1) 214) <|
  lt (pa T 67 (0 + p1) (mn 20 (v2 + p3))) fun T6 =>
  ck (inb (0 + p2) 214) <|
  lt (pa T6 67 (0 + p2) (mn 20 (v4 + p4))) fun T8 =>
  fX12_gameOf_l61 N N p1 p2 p3 v2 v4 0 0 T8
set_option maxHeartbeats 4000000 in
set_option maxRecDepth 100000 in
theorem kX12_gameOf {l : Launch} {D : va_G} {dA : Nat → ClassId} {ad : Nat → Nat} {t1 t2 : Nat} {N : Nat} {S T : SS} {o : Nat → Int64} {p1 : Int32} {p2 : Int32} {p3 : Int32} {p4 : Int32} {r : Int32} {T' : SS} (hR : fX12_gameOf N T p1 p2 p3 p4 = some (T', r)) : KI l D dA ad t1 t2 yX12_gameOf cX12_gameOf 9 .int { frames := 7, cells := 0, slots := 0, locals := 157 } [.ref (ad 52), .int p1, .int p2, .int p3, .int p4] S T o r S T' := by
  intro sz
  refine en_ (plainFor_of_name (by decide)) (Nat.le_of_ble_eq_true rfl) ?_
  intro p ev s m args below meth c QQ hQ hsz X hr hlk w ls hl
  have hx := X.1
  have hb := X.2.1
  have L61 : ∀ (n : Nat), ∀ (x1 : Int32) (x2 : Int32) (x3 : Int32) (x5 : Int32) (x6 : Int32) (x7 : Int32) (x8 : Int32) (T : SS), fX12_gameOf_l61 N n x1 x2 x3 x5 x6 x7 x8 T = some (T', r) → WAT p l ev ({ frames := 7, cells := 0, slots := 0, locals := 157 } : Room) s m args below meth c QQ 9 D dA ad t1 t2 S T o 61 [(0, .ref (ad 52)), (1, .int x1), (2, .int x2), (3, .int x3), (5, .int x5), (6, .int x6), (7, .int x7), (8, .int x8)] [] := by
    intro n
    induction n with
    | zero =>
      intro x1 x2 x3 x5 x6 x7 x8 T hR
      exact nomatch hR
    | succ n ih =>
      intro x1 x2 x3 x5 x6 x7 x8 T hR H locs ls w hl
      rw [fX12_gameOf_l61] at hR
      refine lv_iload hx hb dX12_gameOf_61 (lv_at hl 7 rfl) ?_
      refine lv_aload_n hx hb dX12_gameOf_63 rfl (lv_at hl 0 rfl) ?_
      refine gX12_ends X w lfX12_245 dX12_gameOf_64 ?_
      refine lv_icmp_ge (tgt := 114) hx hb dX12_gameOf_67 (by decide) (fun c1 => ?_) (fun c1 => ?_)
      · rw [if_pos c1] at hR
        refine lv_aload_n hx hb dX12_gameOf_114 rfl (lv_at hl 0 rfl) ?_
        refine gX12_now X w lfX12_52 dX12_gameOf_115 ?_
        refine lv_iconst (v := 0) hx hb dX12_gameOf_118 (by decide) ?_
        refine lv_iload_n hx hb dX12_gameOf_119 rfl (lv_at hl 1 rfl) ?_
        refine lv_iadd hx hb dX12_gameOf_120 ?_
        refine lv_iload hx hb dX12_gameOf_121 (lv_at hl 4 rfl) ?_
        obtain ⟨g2, hR⟩ := ck_e hR
        obtain ⟨T3, eT3, hR⟩ := lt_e hR
        refine iasT (n := 214) rfl (by decide) X w rfl g2 dX12_gameOf_123 (fun H locs w => ?_)
        rw [← eT3] at w
        refine lv_aload_n hx hb dX12_gameOf_124 rfl (lv_at hl 0 rfl) ?_
        refine gX12_now X w lfX12_52 dX12_gameOf_125 ?_
        refine lv_iconst (v := 0) hx hb dX12_gameOf_128 (by decide) ?_
        refine lv_iload_n hx hb dX12_gameOf_129 rfl (lv_at hl 2 rfl) ?_
        refine lv_iadd hx hb dX12_gameOf_130 ?_
        refine lv_iload hx hb dX12_gameOf_131 (lv_at hl 5 rfl) ?_
        obtain ⟨g4, hR⟩ := ck_e hR
        obtain ⟨T5, eT5, hR⟩ := lt_e hR
        refine iasT (n := 214) rfl (by decide) X w rfl g4 dX12_gameOf_133 (fun H locs w => ?_)
        rw [← eT5] at w
        refine lv_iload hx hb dX12_gameOf_134 (lv_at hl 6 rfl) ?_
        refine lv_iload_n hx hb dX12_gameOf_136 rfl (lv_at hl 3 rfl) ?_
        refine lv_isub hx hb dX12_gameOf_137 ?_
        rw [hQ]
        exact rt_i X hr hlk w hsz rfl rfl (lf2 hR).1 (lf2 hR).2 dX12_gameOf_138
      · rw [if_neg c1] at hR
        refine lv_iload hx hb dX12_gameOf_70 (lv_at hl 6 rfl) ?_
        refine lv_iload hx hb dX12_gameOf_72 (lv_at hl 7 rfl) ?_
        refine lv_iload_n hx hb dX12_gameOf_74 rfl (lv_at hl 1 rfl) ?_
        refine lv_icmp_eq (tgt := 104) hx hb dX12_gameOf_75 (by decide) (fun c6 => ?_) (fun c6 => ?_)
        · rw [if_pos c6] at hR
          refine lv_iconst (v := 0) hx hb dX12_gameOf_104 (by decide) ?_
          refine lv_iadd hx hb dX12_gameOf_105 ?_
          obtain ⟨v7, ev7, hR⟩ := lt_e hR
          refine nm_i ev7 ?_
          refine lv_istore (lv' := [(7, .int v7), (0, .ref (ad 52)), (1, .int x1), (2, .int x2), (3, .int x3), (5, .int x5), (6, .int x6), (8, .int x8)]) hx hb dX12_gameOf_106 hl (by decide) rfl (fun ls hl => ?_)
          obtain ⟨v8, ev8, hR⟩ := lt_e hR
          refine lv_iinc (v := v8) (lv' := [(8, .int v8), (7, .int v7), (0, .ref (ad 52)), (1, .int x1), (2, .int x2), (3, .int x3), (5, .int x5), (6, .int x6)]) hx hb dX12_gameOf_108 hl (k := 7) rfl (by rw [ev8]; rfl) (by decide) rfl (fun ls hl => ?_)
          refine lv_goto (tgt := 61) hx hb dX12_gameOf_111 (by decide) ?_
          exact ih x1 x2 x3 x5 x6 v7 v8 T hR _ _ _ w (lv_sub hl [2, 3, 4, 5, 6, 7, 1, 0] rfl)
        · rw [if_neg c6] at hR
          refine lv_aload_n hx hb dX12_gameOf_78 rfl (lv_at hl 0 rfl) ?_
          refine lv_iload_n hx hb dX12_gameOf_79 rfl (lv_at hl 1 rfl) ?_
          refine lv_iload hx hb dX12_gameOf_80 (lv_at hl 7 rfl) ?_
          refine lv_iconst (v := 1) hx hb dX12_gameOf_82 (by decide) ?_
          obtain ⟨T11, r10, h9, hR⟩ := b2_e hR
          refine cVi (k := 52) (As := [.int x1, .int x8, .int 1]) (rest := [.int x7]) X hl.1 w okX12_goesWith obX12 rfl lmX12_289 (kX12_goesWith h9) ⟨Nat.le_of_ble_eq_true rfl, Nat.le_of_ble_eq_true rfl⟩ ⟨rfl, rfl⟩ ⟨Nat.zero_le _, Nat.zero_le _⟩ rfl rfl (Nat.le_of_ble_eq_true rfl) dX12_gameOf_83 (fun H locs zr10 w => ?_)
          refine lv_if_ne (tgt := 100) hx hb dX12_gameOf_86 (by decide) (fun c12 => ?_) (fun c12 => ?_)
          · rw [if_neg c12] at hR
            refine lv_iconst (v := 1) hx hb dX12_gameOf_100 (by decide) ?_
            refine lv_goto (tgt := 105) hx hb dX12_gameOf_101 (by decide) ?_
            refine lv_iadd hx hb dX12_gameOf_105 ?_
            obtain ⟨v13, ev13, hR⟩ := lt_e hR
            refine nm_i ev13 ?_
            refine lv_istore (lv' := [(7, .int v13), (0, .ref (ad 52)), (1, .int x1), (2, .int x2), (3, .int x3), (5, .int x5), (6, .int x6), (8, .int x8)]) hx hb dX12_gameOf_106 hl (by decide) rfl (fun ls hl => ?_)
            obtain ⟨v14, ev14, hR⟩ := lt_e hR
            refine lv_iinc (v := v14) (lv' := [(8, .int v14), (7, .int v13), (0, .ref (ad 52)), (1, .int x1), (2, .int x2), (3, .int x3), (5, .int x5), (6, .int x6)]) hx hb dX12_gameOf_108 hl (k := 7) rfl (by rw [ev14]; rfl) (by decide) rfl (fun ls hl => ?_)
            refine lv_goto (tgt := 61) hx hb dX12_gameOf_111 (by decide) ?_
            exact ih x1 x2 x3 x5 x6 v13 v14 T11 hR _ _ _ w (lv_sub hl [2, 3, 4, 5, 6, 7, 1, 0] rfl)
          · rw [if_pos c12] at hR
            refine lv_aload_n hx hb dX12_gameOf_89 rfl (lv_at hl 0 rfl) ?_
            refine lv_iload hx hb dX12_gameOf_90 (lv_at hl 7 rfl) ?_
            refine lv_iload_n hx hb dX12_gameOf_92 rfl (lv_at hl 1 rfl) ?_
            refine lv_iconst (v := 1) hx hb dX12_gameOf_93 (by decide) ?_
            obtain ⟨T17, r16, h15, hR⟩ := b2_e hR
            refine cVi (k := 52) (As := [.int x8, .int x1, .int 1]) (rest := [.int x7]) X hl.1 w okX12_goesWith obX12 rfl lmX12_289 (kX12_goesWith h15) ⟨Nat.le_of_ble_eq_true rfl, Nat.le_of_ble_eq_true rfl⟩ ⟨rfl, rfl⟩ ⟨Nat.zero_le _, Nat.zero_le _⟩ rfl rfl (Nat.le_of_ble_eq_true rfl) dX12_gameOf_94 (fun H locs zr16 w => ?_)
            refine lv_if_eq (tgt := 104) hx hb dX12_gameOf_97 (by decide) (fun c18 => ?_) (fun c18 => ?_)
            · rw [if_pos c18] at hR
              refine lv_iconst (v := 0) hx hb dX12_gameOf_104 (by decide) ?_
              refine lv_iadd hx hb dX12_gameOf_105 ?_
              obtain ⟨v19, ev19, hR⟩ := lt_e hR
              refine nm_i ev19 ?_
              refine lv_istore (lv' := [(7, .int v19), (0, .ref (ad 52)), (1, .int x1), (2, .int x2), (3, .int x3), (5, .int x5), (6, .int x6), (8, .int x8)]) hx hb dX12_gameOf_106 hl (by decide) rfl (fun ls hl => ?_)
              obtain ⟨v20, ev20, hR⟩ := lt_e hR
              refine lv_iinc (v := v20) (lv' := [(8, .int v20), (7, .int v19), (0, .ref (ad 52)), (1, .int x1), (2, .int x2), (3, .int x3), (5, .int x5), (6, .int x6)]) hx hb dX12_gameOf_108 hl (k := 7) rfl (by rw [ev20]; rfl) (by decide) rfl (fun ls hl => ?_)
              refine lv_goto (tgt := 61) hx hb dX12_gameOf_111 (by decide) ?_
              exact ih x1 x2 x3 x5 x6 v19 v20 T17 hR _ _ _ w (lv_sub hl [2, 3, 4, 5, 6, 7, 1, 0] rfl)
            · rw [if_neg c18] at hR
              refine lv_iconst (v := 1) hx hb dX12_gameOf_100 (by decide) ?_
              refine lv_goto (tgt := 105) hx hb dX12_gameOf_101 (by decide) ?_
              refine lv_iadd hx hb dX12_gameOf_105 ?_
              obtain ⟨v21, ev21, hR⟩ := lt_e hR
              refine nm_i ev21 ?_
              refine lv_istore (lv' := [(7, .int v21), (0, .ref (ad 52)), (1, .int x1), (2, .int x2), (3, .int x3), (5, .int x5), (6, .int x6), (8, .int x8)]) hx hb dX12_gameOf_106 hl (by decide) rfl (fun ls hl => ?_)
              obtain ⟨v22, ev22, hR⟩ := lt_e hR
              refine lv_iinc (v := v22) (lv' := [(8, .int v22), (7, .int v21), (0, .ref (ad 52)), (1, .int x1), (2, .int x2), (3, .int x3), (5, .int x5), (6, .int x6)]) hx hb dX12_gameOf_108 hl (k := 7) rfl (by rw [ev22]; rfl) (by decide) rfl (fun ls hl => ?_)
              refine lv_goto (tgt := 61) hx hb dX12_gameOf_111 (by decide) ?_
              exact ih x1 x2 x3 x5 x6 v21 v22 T17 hR _ _ _ w (lv_sub hl [2, 3, 4, 5, 6, 7, 1, 0] rfl)
  have hl : lv_has ls 9 [(0, .ref (ad 52)), (1, .int p1), (2, .int p2), (3, .int p3), (4, .int p4)] := hl
  unfold fX12_gameOf at hR
  refine lv_aload_n hx hb dX12_gameOf_0 rfl (lv_at hl 0 rfl) ?_
  refine gX12_now X w lfX12_52 dX12_gameOf_1 ?_
  refine lv_iconst (v := 0) hx hb dX12_gameOf_4 (by decide) ?_
  refine lv_iload_n hx hb dX12_gameOf_5 rfl (lv_at hl 1 rfl) ?_
  refine lv_iadd hx hb dX12_gameOf_6 ?_
  obtain ⟨g1, hR⟩ := ck_e hR
  refine ialT (n := 214) rfl (by decide) X w rfl g1 dX12_gameOf_7 ?_
  obtain ⟨v2, ev2, hR⟩ := lt_e hR
  refine nm_i ev2 ?_
  refine lv_istore (lv' := [(5, .int v2), (0, .ref (ad 52)), (1, .int p1), (2, .int p2), (3, .int p3), (4, .int p4)]) hx hb dX12_gameOf_8 hl (by decide) rfl (fun ls hl => ?_)
  refine lv_aload_n hx hb dX12_gameOf_10 rfl (lv_at hl 1 rfl) ?_
  refine gX12_now X w lfX12_52 dX12_gameOf_11 ?_
  refine lv_iconst (v := 0) hx hb dX12_gameOf_14 (by decide) ?_
  refine lv_iload_n hx hb dX12_gameOf_15 rfl (lv_at hl 3 rfl) ?_
  refine lv_iadd hx hb dX12_gameOf_16 ?_
  obtain ⟨g3, hR⟩ := ck_e hR
  refine ialT (n := 214) rfl (by decide) X w rfl g3 dX12_gameOf_17 ?_
  obtain ⟨v4, ev4, hR⟩ := lt_e hR
  refine nm_i ev4 ?_
  refine lv_istore (lv' := [(6, .int v4), (5, .int v2), (0, .ref (ad 52)), (1, .int p1), (2, .int p2), (3, .int p3), (4, .int p4)]) hx hb dX12_gameOf_18 hl (by decide) rfl (fun ls hl => ?_)
  refine lv_aload_n hx hb dX12_gameOf_20 rfl (lv_at hl 2 rfl) ?_
  refine gX12_now X w lfX12_52 dX12_gameOf_21 ?_
  refine lv_iconst (v := 0) hx hb dX12_gameOf_24 (by decide) ?_
  refine lv_iload_n hx hb dX12_gameOf_25 rfl (lv_at hl 3 rfl) ?_
  refine lv_iadd hx hb dX12_gameOf_26 ?_
  refine lv_bipush (v := 20) hx hb dX12_gameOf_27 (by decide) ?_
  refine lv_iload hx hb dX12_gameOf_29 (lv_at hl 1 rfl) ?_
  refine lv_iload_n hx hb dX12_gameOf_31 rfl (lv_at hl 5 rfl) ?_
  refine lv_iadd hx hb dX12_gameOf_32 ?_
  refine mnI X hl.1 lmX12_327 ⟨Nat.le_of_ble_eq_true rfl, Nat.le_of_ble_eq_true rfl⟩ ⟨Nat.zero_le _, Nat.zero_le _⟩ dX12_gameOf_33 ?_
  obtain ⟨g5, hR⟩ := ck_e hR
  obtain ⟨T6, eT6, hR⟩ := lt_e hR
  refine iasT (n := 214) rfl (by decide) X w rfl g5 dX12_gameOf_36 (fun H locs w => ?_)
  rw [← eT6] at w
  refine lv_aload_n hx hb dX12_gameOf_37 rfl (lv_at hl 2 rfl) ?_
  refine gX12_now X w lfX12_52 dX12_gameOf_38 ?_
  refine lv_iconst (v := 0) hx hb dX12_gameOf_41 (by decide) ?_
  refine lv_iload_n hx hb dX12_gameOf_42 rfl (lv_at hl 4 rfl) ?_
  refine lv_iadd hx hb dX12_gameOf_43 ?_
  refine lv_bipush (v := 20) hx hb dX12_gameOf_44 (by decide) ?_
  refine lv_iload hx hb dX12_gameOf_46 (lv_at hl 0 rfl) ?_
  refine lv_iload hx hb dX12_gameOf_48 (lv_at hl 6 rfl) ?_
  refine lv_iadd hx hb dX12_gameOf_50 ?_
  refine mnI X hl.1 lmX12_327 ⟨Nat.le_of_ble_eq_true rfl, Nat.le_of_ble_eq_true rfl⟩ ⟨Nat.zero_le _, Nat.zero_le _⟩ dX12_gameOf_51 ?_
  obtain ⟨g7, hR⟩ := ck_e hR
  obtain ⟨T8, eT8, hR⟩ := lt_e hR
  refine iasT (n := 214) rfl (by decide) X w rfl g7 dX12_gameOf_54 (fun H locs w => ?_)
  rw [← eT8] at w
  refine lv_iconst (v := 0) hx hb dX12_gameOf_55 (by decide) ?_
  refine lv_istore (lv' := [(7, .int 0), (6, .int v4), (5, .int v2), (0, .ref (ad 52)), (1, .int p1), (2, .int p2), (3, .int p3), (4, .int p4)]) hx hb dX12_gameOf_56 hl (by decide) rfl (fun ls hl => ?_)
  refine lv_iconst (v := 0) hx hb dX12_gameOf_58 (by decide) ?_
  refine lv_istore (lv' := [(8, .int 0), (7, .int 0), (6, .int v4), (5, .int v2), (0, .ref (ad 52)), (1, .int p1), (2, .int p2), (3, .int p3), (4, .int p4)]) hx hb dX12_gameOf_59 hl (by decide) rfl (fun ls hl => ?_)
  exact L61 N p1 p2 p3 v2 v4 0 0 T8 hR _ _ _ w (lv_sub hl [4, 5, 6, 7, 3, 2, 1, 0] rfl)
/- LooseEndsModel.game(IIIII)I -/
def fX12_game (N : Nat) (T : SS) (p1 : Int32) (p2 : Int32) (p3 : Int32) (p4 : Int32) (p5 : Int32) : Option (SS × Int32) := bd (fX12_areTwo N T p1 p2) fun r2 =>
  if r2 = 0 then
  (some (T, (-1000000)))
  else
  (bd (fX12_in N p3 0 3) fun r5 =>
  if r5 = 0 then
  (some (T, (-1000000)))
  else
  (bd (fX12_in N p4 0 3) fun r8 =>
  if r8 = 0 then
  (some (T, (-1000000)))
  else
  (bd (fX12_in N p5 0 1) fun r11 =>
  if r11 = 0 then
  (some (T, (-1000000)))
  else
  (if p5 = 0 then
  (b2 (fX12_gameOf N T p1 p2 p3 p4) fun T19 r18 =>
  some (T19, r18))
  else
  (b2 (fX12_gameOf N T p2 p1 p4 p3) fun T16 r15 =>
  some (T16, r15))))))
set_option maxHeartbeats 4000000 in
set_option maxRecDepth 100000 in
theorem kX12_game {l : Launch} {D : va_G} {dA : Nat → ClassId} {ad : Nat → Nat} {t1 t2 : Nat} {N : Nat} {S T : SS} {o : Nat → Int64} {p1 : Int32} {p2 : Int32} {p3 : Int32} {p4 : Int32} {p5 : Int32} {r : Int32} {T' : SS} (hR : fX12_game N T p1 p2 p3 p4 p5 = some (T', r)) : KI l D dA ad t1 t2 yX12_game cX12_game 6 .int { frames := 8, cells := 0, slots := 0, locals := 185 } [.ref (ad 52), .int p1, .int p2, .int p3, .int p4, .int p5] S T o r S T' := by
  intro sz
  refine en_ (plainFor_of_name (by decide)) (Nat.le_of_ble_eq_true rfl) ?_
  intro p ev s m args below meth c QQ hQ hsz X hr hlk w ls hl
  have hx := X.1
  have hb := X.2.1
  have hl : lv_has ls 6 [(0, .ref (ad 52)), (1, .int p1), (2, .int p2), (3, .int p3), (4, .int p4), (5, .int p5)] := hl
  unfold fX12_game at hR
  refine lv_aload_n hx hb dX12_game_0 rfl (lv_at hl 0 rfl) ?_
  refine lv_iload_n hx hb dX12_game_1 rfl (lv_at hl 1 rfl) ?_
  refine lv_iload_n hx hb dX12_game_2 rfl (lv_at hl 2 rfl) ?_
  obtain ⟨r2, h1, hR⟩ := bd_e hR
  refine cVi (k := 52) (As := [.int p1, .int p2]) (rest := []) X hl.1 w okX12_areTwo obX12 rfl lmX12_352 (kX12_areTwo h1) ⟨Nat.le_of_ble_eq_true rfl, Nat.le_of_ble_eq_true rfl⟩ ⟨rfl, rfl⟩ ⟨Nat.zero_le _, Nat.zero_le _⟩ rfl rfl (Nat.le_of_ble_eq_true rfl) dX12_game_3 (fun H locs zr2 w => ?_)
  refine lv_if_eq (tgt := 38) hx hb dX12_game_6 (by decide) (fun c3 => ?_) (fun c3 => ?_)
  · rw [if_pos c3] at hR
    refine lv_ldcw X.1 X.2.1 X.2.2.2.1 (X.2.2.2.2 _ lcX12_407) dX12_game_38 ?_
    rw [hQ]
    exact rt_i X hr hlk w hsz rfl rfl (lf2 hR).1 (lf2 hR).2 dX12_game_41
  · rw [if_neg c3] at hR
    refine lv_iload_n hx hb dX12_game_9 rfl (lv_at hl 3 rfl) ?_
    refine lv_iconst (v := 0) hx hb dX12_game_10 (by decide) ?_
    refine lv_iconst (v := 3) hx hb dX12_game_11 (by decide) ?_
    obtain ⟨r5, h4, hR⟩ := bd_e hR
    refine cSi (As := [.int p3, .int 0, .int 3]) (rest := []) X hl.1 w okX12_in lmX12_208 (kX12_in h4) ⟨Nat.le_of_ble_eq_true rfl, Nat.le_of_ble_eq_true rfl⟩ ⟨rfl, rfl⟩ ⟨Nat.zero_le _, Nat.zero_le _⟩ rfl rfl (Nat.le_of_ble_eq_true rfl) dX12_game_12 (fun H locs zr5 w => ?_)
    refine lv_if_eq (tgt := 38) hx hb dX12_game_15 (by decide) (fun c6 => ?_) (fun c6 => ?_)
    · rw [if_pos c6] at hR
      refine lv_ldcw X.1 X.2.1 X.2.2.2.1 (X.2.2.2.2 _ lcX12_407) dX12_game_38 ?_
      rw [hQ]
      exact rt_i X hr hlk w hsz rfl rfl (lf2 hR).1 (lf2 hR).2 dX12_game_41
    · rw [if_neg c6] at hR
      refine lv_iload hx hb dX12_game_18 (lv_at hl 4 rfl) ?_
      refine lv_iconst (v := 0) hx hb dX12_game_20 (by decide) ?_
      refine lv_iconst (v := 3) hx hb dX12_game_21 (by decide) ?_
      obtain ⟨r8, h7, hR⟩ := bd_e hR
      refine cSi (As := [.int p4, .int 0, .int 3]) (rest := []) X hl.1 w okX12_in lmX12_208 (kX12_in h7) ⟨Nat.le_of_ble_eq_true rfl, Nat.le_of_ble_eq_true rfl⟩ ⟨rfl, rfl⟩ ⟨Nat.zero_le _, Nat.zero_le _⟩ rfl rfl (Nat.le_of_ble_eq_true rfl) dX12_game_22 (fun H locs zr8 w => ?_)
      refine lv_if_eq (tgt := 38) hx hb dX12_game_25 (by decide) (fun c9 => ?_) (fun c9 => ?_)
      · rw [if_pos c9] at hR
        refine lv_ldcw X.1 X.2.1 X.2.2.2.1 (X.2.2.2.2 _ lcX12_407) dX12_game_38 ?_
        rw [hQ]
        exact rt_i X hr hlk w hsz rfl rfl (lf2 hR).1 (lf2 hR).2 dX12_game_41
      · rw [if_neg c9] at hR
        refine lv_iload hx hb dX12_game_28 (lv_at hl 5 rfl) ?_
        refine lv_iconst (v := 0) hx hb dX12_game_30 (by decide) ?_
        refine lv_iconst (v := 1) hx hb dX12_game_31 (by decide) ?_
        obtain ⟨r11, h10, hR⟩ := bd_e hR
        refine cSi (As := [.int p5, .int 0, .int 1]) (rest := []) X hl.1 w okX12_in lmX12_208 (kX12_in h10) ⟨Nat.le_of_ble_eq_true rfl, Nat.le_of_ble_eq_true rfl⟩ ⟨rfl, rfl⟩ ⟨Nat.zero_le _, Nat.zero_le _⟩ rfl rfl (Nat.le_of_ble_eq_true rfl) dX12_game_32 (fun H locs zr11 w => ?_)
        refine lv_if_ne (tgt := 42) hx hb dX12_game_35 (by decide) (fun c12 => ?_) (fun c12 => ?_)
        · rw [if_neg c12] at hR
          refine lv_iload hx hb dX12_game_42 (lv_at hl 5 rfl) ?_
          refine lv_if_ne (tgt := 59) hx hb dX12_game_44 (by decide) (fun c13 => ?_) (fun c13 => ?_)
          · rw [if_neg c13] at hR
            refine lv_aload_n hx hb dX12_game_59 rfl (lv_at hl 0 rfl) ?_
            refine lv_iload_n hx hb dX12_game_60 rfl (lv_at hl 2 rfl) ?_
            refine lv_iload_n hx hb dX12_game_61 rfl (lv_at hl 1 rfl) ?_
            refine lv_iload hx hb dX12_game_62 (lv_at hl 4 rfl) ?_
            refine lv_iload_n hx hb dX12_game_64 rfl (lv_at hl 3 rfl) ?_
            obtain ⟨T16, r15, h14, hR⟩ := b2_e hR
            refine cVi (k := 52) (As := [.int p2, .int p1, .int p4, .int p3]) (rest := []) X hl.1 w okX12_gameOf obX12 rfl lmX12_408 (kX12_gameOf h14) ⟨Nat.le_of_ble_eq_true rfl, Nat.le_of_ble_eq_true rfl⟩ ⟨rfl, rfl⟩ ⟨Nat.zero_le _, Nat.zero_le _⟩ rfl rfl (Nat.le_of_ble_eq_true rfl) dX12_game_65 (fun H locs zr15 w => ?_)
            rw [hQ]
            exact rt_i X hr hlk w hsz rfl rfl (lf2 hR).1 (lf2 hR).2 dX12_game_68
          · rw [if_pos c13] at hR
            refine lv_aload_n hx hb dX12_game_47 rfl (lv_at hl 0 rfl) ?_
            refine lv_iload_n hx hb dX12_game_48 rfl (lv_at hl 1 rfl) ?_
            refine lv_iload_n hx hb dX12_game_49 rfl (lv_at hl 2 rfl) ?_
            refine lv_iload_n hx hb dX12_game_50 rfl (lv_at hl 3 rfl) ?_
            refine lv_iload hx hb dX12_game_51 (lv_at hl 4 rfl) ?_
            obtain ⟨T19, r18, h17, hR⟩ := b2_e hR
            refine cVi (k := 52) (As := [.int p1, .int p2, .int p3, .int p4]) (rest := []) X hl.1 w okX12_gameOf obX12 rfl lmX12_408 (kX12_gameOf h17) ⟨Nat.le_of_ble_eq_true rfl, Nat.le_of_ble_eq_true rfl⟩ ⟨rfl, rfl⟩ ⟨Nat.zero_le _, Nat.zero_le _⟩ rfl rfl (Nat.le_of_ble_eq_true rfl) dX12_game_53 (fun H locs zr18 w => ?_)
            refine lv_goto (tgt := 68) hx hb dX12_game_56 (by decide) ?_
            rw [hQ]
            exact rt_i X hr hlk w hsz rfl rfl (lf2 hR).1 (lf2 hR).2 dX12_game_68
        · rw [if_pos c12] at hR
          refine lv_ldcw X.1 X.2.1 X.2.2.2.1 (X.2.2.2.2 _ lcX12_407) dX12_game_38 ?_
          rw [hQ]
          exact rt_i X hr hlk w hsz rfl rfl (lf2 hR).1 (lf2 hR).2 dX12_game_41
/- LooseEndsModel.isRest(IIII)Z -/
def fX12_isRest_l3 (N : Nat) : Nat → Int32 → Int32 → Int32 → Int32 → Int32 → SS → Option (SS × Int32)
  | 0, _, _, _, _, _, _ => none
  | n + 1, x1, x2, x3, x4, x5, T => if 4 ≤ x5 then
  (some (T, 1))
  else
  (b2 (fX12_gameOf N T x1 x2 x5 x4) fun T4 r3 =>
  b2 (fX12_gameOf N T4 x1 x2 x3 x4) fun T7 r6 =>
  if r6 < r3 then
  (some (T7, 0))
  else
  (b2 (fX12_gameOf N T7 x2 x1 x5 x3) fun T11 r10 =>
  b2 (fX12_gameOf N T11 x2 x1 x4 x3) fun T14 r13 =>
  if r10 ≤ r13 then
  (lt (x5 + 1) fun v16 =>
  fX12_isRest_l3 N n x1 x2 x3 x4 v16 T14)
  else
  (some (T14, 0))))
def fX12_isRest (N : Nat) (T : SS) (p1 : Int32) (p2 : Int32) (p3 : Int32) (p4 : Int32) : Option (SS × Int32) := fX12_isRest_l3 N N p1 p2 p3 p4 0 T
set_option maxHeartbeats 4000000 in
set_option maxRecDepth 100000 in
theorem kX12_isRest {l : Launch} {D : va_G} {dA : Nat → ClassId} {ad : Nat → Nat} {t1 t2 : Nat} {N : Nat} {S T : SS} {o : Nat → Int64} {p1 : Int32} {p2 : Int32} {p3 : Int32} {p4 : Int32} {r : Int32} {T' : SS} (hR : fX12_isRest N T p1 p2 p3 p4 = some (T', r)) : KI l D dA ad t1 t2 yX12_isRest cX12_isRest 6 .boolean { frames := 8, cells := 0, slots := 0, locals := 185 } [.ref (ad 52), .int p1, .int p2, .int p3, .int p4] S T o r S T' := by
  intro sz
  refine en_ (plainFor_of_name (by decide)) (Nat.le_of_ble_eq_true rfl) ?_
  intro p ev s m args below meth c QQ hQ hsz X hr hlk w ls hl
  have hx := X.1
  have hb := X.2.1
  have L3 : ∀ (n : Nat), ∀ (x1 : Int32) (x2 : Int32) (x3 : Int32) (x4 : Int32) (x5 : Int32) (T : SS), fX12_isRest_l3 N n x1 x2 x3 x4 x5 T = some (T', r) → WAT p l ev ({ frames := 8, cells := 0, slots := 0, locals := 185 } : Room) s m args below meth c QQ 6 D dA ad t1 t2 S T o 3 [(0, .ref (ad 52)), (1, .int x1), (2, .int x2), (3, .int x3), (4, .int x4), (5, .int x5)] [] := by
    intro n
    induction n with
    | zero =>
      intro x1 x2 x3 x4 x5 T hR
      exact nomatch hR
    | succ n ih =>
      intro x1 x2 x3 x4 x5 T hR H locs ls w hl
      rw [fX12_isRest_l3] at hR
      refine lv_iload hx hb dX12_isRest_3 (lv_at hl 5 rfl) ?_
      refine lv_iconst (v := 4) hx hb dX12_isRest_5 (by decide) ?_
      refine lv_icmp_ge (tgt := 60) hx hb dX12_isRest_6 (by decide) (fun c1 => ?_) (fun c1 => ?_)
      · rw [if_pos c1] at hR
        refine lv_iconst (v := 1) hx hb dX12_isRest_60 (by decide) ?_
        rw [hQ]
        exact rt_i X hr hlk w hsz rfl rfl (lf2 hR).1 (lf2 hR).2 dX12_isRest_61
      · rw [if_neg c1] at hR
        refine lv_aload_n hx hb dX12_isRest_9 rfl (lv_at hl 0 rfl) ?_
        refine lv_iload_n hx hb dX12_isRest_10 rfl (lv_at hl 1 rfl) ?_
        refine lv_iload_n hx hb dX12_isRest_11 rfl (lv_at hl 2 rfl) ?_
        refine lv_iload hx hb dX12_isRest_12 (lv_at hl 5 rfl) ?_
        refine lv_iload hx hb dX12_isRest_14 (lv_at hl 4 rfl) ?_
        obtain ⟨T4, r3, h2, hR⟩ := b2_e hR
        refine cVi (k := 52) (As := [.int x1, .int x2, .int x5, .int x4]) (rest := []) X hl.1 w okX12_gameOf obX12 rfl lmX12_408 (kX12_gameOf h2) ⟨Nat.le_of_ble_eq_true rfl, Nat.le_of_ble_eq_true rfl⟩ ⟨rfl, rfl⟩ ⟨Nat.zero_le _, Nat.zero_le _⟩ rfl rfl (Nat.le_of_ble_eq_true rfl) dX12_isRest_16 (fun H locs zr3 w => ?_)
        refine lv_aload_n hx hb dX12_isRest_19 rfl (lv_at hl 0 rfl) ?_
        refine lv_iload_n hx hb dX12_isRest_20 rfl (lv_at hl 1 rfl) ?_
        refine lv_iload_n hx hb dX12_isRest_21 rfl (lv_at hl 2 rfl) ?_
        refine lv_iload_n hx hb dX12_isRest_22 rfl (lv_at hl 3 rfl) ?_
        refine lv_iload hx hb dX12_isRest_23 (lv_at hl 4 rfl) ?_
        obtain ⟨T7, r6, h5, hR⟩ := b2_e hR
        refine cVi (k := 52) (As := [.int x1, .int x2, .int x3, .int x4]) (rest := [.int r3]) X hl.1 w okX12_gameOf obX12 rfl lmX12_408 (kX12_gameOf h5) ⟨Nat.le_of_ble_eq_true rfl, Nat.le_of_ble_eq_true rfl⟩ ⟨rfl, rfl⟩ ⟨Nat.zero_le _, Nat.zero_le _⟩ rfl rfl (Nat.le_of_ble_eq_true rfl) dX12_isRest_25 (fun H locs zr6 w => ?_)
        refine lv_icmp_gt (tgt := 52) hx hb dX12_isRest_28 (by decide) (fun c8 => ?_) (fun c8 => ?_)
        · rw [if_pos c8] at hR
          refine lv_iconst (v := 0) hx hb dX12_isRest_52 (by decide) ?_
          rw [hQ]
          exact rt_i X hr hlk w hsz rfl rfl (lf2 hR).1 (lf2 hR).2 dX12_isRest_53
        · rw [if_neg c8] at hR
          refine lv_aload_n hx hb dX12_isRest_31 rfl (lv_at hl 0 rfl) ?_
          refine lv_iload_n hx hb dX12_isRest_32 rfl (lv_at hl 2 rfl) ?_
          refine lv_iload_n hx hb dX12_isRest_33 rfl (lv_at hl 1 rfl) ?_
          refine lv_iload hx hb dX12_isRest_34 (lv_at hl 5 rfl) ?_
          refine lv_iload_n hx hb dX12_isRest_36 rfl (lv_at hl 3 rfl) ?_
          obtain ⟨T11, r10, h9, hR⟩ := b2_e hR
          refine cVi (k := 52) (As := [.int x2, .int x1, .int x5, .int x3]) (rest := []) X hl.1 w okX12_gameOf obX12 rfl lmX12_408 (kX12_gameOf h9) ⟨Nat.le_of_ble_eq_true rfl, Nat.le_of_ble_eq_true rfl⟩ ⟨rfl, rfl⟩ ⟨Nat.zero_le _, Nat.zero_le _⟩ rfl rfl (Nat.le_of_ble_eq_true rfl) dX12_isRest_37 (fun H locs zr10 w => ?_)
          refine lv_aload_n hx hb dX12_isRest_40 rfl (lv_at hl 0 rfl) ?_
          refine lv_iload_n hx hb dX12_isRest_41 rfl (lv_at hl 2 rfl) ?_
          refine lv_iload_n hx hb dX12_isRest_42 rfl (lv_at hl 1 rfl) ?_
          refine lv_iload hx hb dX12_isRest_43 (lv_at hl 4 rfl) ?_
          refine lv_iload_n hx hb dX12_isRest_45 rfl (lv_at hl 3 rfl) ?_
          obtain ⟨T14, r13, h12, hR⟩ := b2_e hR
          refine cVi (k := 52) (As := [.int x2, .int x1, .int x4, .int x3]) (rest := [.int r10]) X hl.1 w okX12_gameOf obX12 rfl lmX12_408 (kX12_gameOf h12) ⟨Nat.le_of_ble_eq_true rfl, Nat.le_of_ble_eq_true rfl⟩ ⟨rfl, rfl⟩ ⟨Nat.zero_le _, Nat.zero_le _⟩ rfl rfl (Nat.le_of_ble_eq_true rfl) dX12_isRest_46 (fun H locs zr13 w => ?_)
          refine lv_icmp_le (tgt := 54) hx hb dX12_isRest_49 (by decide) (fun c15 => ?_) (fun c15 => ?_)
          · rw [if_pos c15] at hR
            obtain ⟨v16, ev16, hR⟩ := lt_e hR
            refine lv_iinc (v := v16) (lv' := [(5, .int v16), (0, .ref (ad 52)), (1, .int x1), (2, .int x2), (3, .int x3), (4, .int x4)]) hx hb dX12_isRest_54 hl (k := 5) rfl (by rw [ev16]; rfl) (by decide) rfl (fun ls hl => ?_)
            refine lv_goto (tgt := 3) hx hb dX12_isRest_57 (by decide) ?_
            exact ih x1 x2 x3 x4 v16 T14 hR _ _ _ w (lv_sub hl [1, 2, 3, 4, 5, 0] rfl)
          · rw [if_neg c15] at hR
            refine lv_iconst (v := 0) hx hb dX12_isRest_52 (by decide) ?_
            rw [hQ]
            exact rt_i X hr hlk w hsz rfl rfl (lf2 hR).1 (lf2 hR).2 dX12_isRest_53
  have hl : lv_has ls 6 [(0, .ref (ad 52)), (1, .int p1), (2, .int p2), (3, .int p3), (4, .int p4)] := hl
  unfold fX12_isRest at hR
  refine lv_iconst (v := 0) hx hb dX12_isRest_0 (by decide) ?_
  refine lv_istore (lv' := [(5, .int 0), (0, .ref (ad 52)), (1, .int p1), (2, .int p2), (3, .int p3), (4, .int p4)]) hx hb dX12_isRest_1 hl (by decide) rfl (fun ls hl => ?_)
  exact L3 N p1 p2 p3 p4 0 T hR _ _ _ w (lv_sub hl [1, 2, 3, 4, 5, 0] rfl)
/- LooseEndsModel.rests(III)I -/
def fX12_rests_l22 (N : Nat) : Nat → Int32 → Int32 → Int32 → Int32 → Int32 → SS → Option (SS × Int32)
  | 0, _, _, _, _, _, _ => none
  | n + 1, x1, x2, x3, x4, x5, T => if 16 ≤ x5 then
  (if x3 = (-1) then
  (some (T, x4))
  else
  (some (T, (-1))))
  else
  (b2 (fX12_isRest N T x1 x2 (x5 / 4) (ir x5 4)) fun T5 r4 =>
  if r4 = 0 then
  (lt (x5 + 1) fun v7 =>
  fX12_rests_l22 N n x1 x2 x3 x4 v7 T5)
  else
  (if x4 = x3 then
  (some (T5, (10 * (x5 / 4)) + (ir x5 4)))
  else
  (lt (x4 + 1) fun v9 =>
  lt (x5 + 1) fun v10 =>
  fX12_rests_l22 N n x1 x2 x3 v9 v10 T5)))
def fX12_rests (N : Nat) (T : SS) (p1 : Int32) (p2 : Int32) (p3 : Int32) : Option (SS × Int32) := bd (fX12_areTwo N T p1 p2) fun r2 =>
  if r2 = 0 then
  (some (T, (-1)))
  else
  (if (-1) ≤ p3 then
  (fX12_rests_l22 N N p1 p2 p3 0 0 T)
  else
  (some (T, (-1))))
set_option maxHeartbeats 4000000 in
set_option maxRecDepth 100000 in
theorem kX12_rests {l : Launch} {D : va_G} {dA : Nat → ClassId} {ad : Nat → Nat} {t1 t2 : Nat} {N : Nat} {S T : SS} {o : Nat → Int64} {p1 : Int32} {p2 : Int32} {p3 : Int32} {r : Int32} {T' : SS} (hR : fX12_rests N T p1 p2 p3 = some (T', r)) : KI l D dA ad t1 t2 yX12_rests cX12_rests 6 .int { frames := 9, cells := 0, slots := 0, locals := 210 } [.ref (ad 52), .int p1, .int p2, .int p3] S T o r S T' := by
  intro sz
  refine en_ (plainFor_of_name (by decide)) (Nat.le_of_ble_eq_true rfl) ?_
  intro p ev s m args below meth c QQ hQ hsz X hr hlk w ls hl
  have hx := X.1
  have hb := X.2.1
  have L22 : ∀ (n : Nat), ∀ (x1 : Int32) (x2 : Int32) (x3 : Int32) (x4 : Int32) (x5 : Int32) (T : SS), fX12_rests_l22 N n x1 x2 x3 x4 x5 T = some (T', r) → WAT p l ev ({ frames := 9, cells := 0, slots := 0, locals := 210 } : Room) s m args below meth c QQ 6 D dA ad t1 t2 S T o 22 [(0, .ref (ad 52)), (1, .int x1), (2, .int x2), (3, .int x3), (4, .int x4), (5, .int x5)] [] := by
    intro n
    induction n with
    | zero =>
      intro x1 x2 x3 x4 x5 T hR
      exact nomatch hR
    | succ n ih =>
      intro x1 x2 x3 x4 x5 T hR H locs ls w hl
      rw [fX12_rests_l22] at hR
      refine lv_iload hx hb dX12_rests_22 (lv_at hl 5 rfl) ?_
      refine lv_bipush (v := 16) hx hb dX12_rests_24 (by decide) ?_
      refine lv_icmp_ge (tgt := 74) hx hb dX12_rests_26 (by decide) (fun c1 => ?_) (fun c1 => ?_)
      · rw [if_pos c1] at hR
        refine lv_iload_n hx hb dX12_rests_74 rfl (lv_at hl 3 rfl) ?_
        refine lv_iconst (v := -1) hx hb dX12_rests_75 (by decide) ?_
        refine lv_icmp_ne (tgt := 84) hx hb dX12_rests_76 (by decide) (fun c2 => ?_) (fun c2 => ?_)
        · rw [if_neg c2] at hR
          refine lv_iconst (v := -1) hx hb dX12_rests_84 (by decide) ?_
          rw [hQ]
          exact rt_i X hr hlk w hsz rfl rfl (lf2 hR).1 (lf2 hR).2 dX12_rests_85
        · rw [if_pos c2] at hR
          refine lv_iload hx hb dX12_rests_79 (lv_at hl 4 rfl) ?_
          refine lv_goto (tgt := 85) hx hb dX12_rests_81 (by decide) ?_
          rw [hQ]
          exact rt_i X hr hlk w hsz rfl rfl (lf2 hR).1 (lf2 hR).2 dX12_rests_85
      · rw [if_neg c1] at hR
        refine lv_aload_n hx hb dX12_rests_29 rfl (lv_at hl 0 rfl) ?_
        refine lv_iload_n hx hb dX12_rests_30 rfl (lv_at hl 1 rfl) ?_
        refine lv_iload_n hx hb dX12_rests_31 rfl (lv_at hl 2 rfl) ?_
        refine lv_iload hx hb dX12_rests_32 (lv_at hl 5 rfl) ?_
        refine lv_iconst (v := 4) hx hb dX12_rests_34 (by decide) ?_
        refine lv_idiv hx hb dX12_rests_35 (by decide) ?_
        refine lv_iload hx hb dX12_rests_36 (lv_at hl 5 rfl) ?_
        refine lv_iconst (v := 4) hx hb dX12_rests_38 (by decide) ?_
        refine lv_irem hx hb dX12_rests_39 (by decide) ?_
        obtain ⟨T5, r4, h3, hR⟩ := b2_e hR
        refine cVi (k := 52) (As := [.int x1, .int x2, .int (x5 / 4), .int (ir x5 4)]) (rest := []) X hl.1 w okX12_isRest obX12 rfl lmX12_412 (kX12_isRest h3) ⟨Nat.le_of_ble_eq_true rfl, Nat.le_of_ble_eq_true rfl⟩ ⟨rfl, rfl⟩ ⟨Nat.zero_le _, Nat.zero_le _⟩ rfl rfl (Nat.le_of_ble_eq_true rfl) dX12_rests_40 (fun H locs zr4 w => ?_)
        refine lv_if_eq (tgt := 68) hx hb dX12_rests_43 (by decide) (fun c6 => ?_) (fun c6 => ?_)
        · rw [if_pos c6] at hR
          obtain ⟨v7, ev7, hR⟩ := lt_e hR
          refine lv_iinc (v := v7) (lv' := [(5, .int v7), (0, .ref (ad 52)), (1, .int x1), (2, .int x2), (3, .int x3), (4, .int x4)]) hx hb dX12_rests_68 hl (k := 5) rfl (by rw [ev7]; rfl) (by decide) rfl (fun ls hl => ?_)
          refine lv_goto (tgt := 22) hx hb dX12_rests_71 (by decide) ?_
          exact ih x1 x2 x3 x4 v7 T5 hR _ _ _ w (lv_sub hl [1, 2, 3, 4, 5, 0] rfl)
        · rw [if_neg c6] at hR
          refine lv_iload hx hb dX12_rests_46 (lv_at hl 4 rfl) ?_
          refine lv_iload_n hx hb dX12_rests_48 rfl (lv_at hl 3 rfl) ?_
          refine lv_icmp_ne (tgt := 65) hx hb dX12_rests_49 (by decide) (fun c8 => ?_) (fun c8 => ?_)
          · rw [if_neg c8] at hR
            obtain ⟨v9, ev9, hR⟩ := lt_e hR
            refine lv_iinc (v := v9) (lv' := [(4, .int v9), (0, .ref (ad 52)), (1, .int x1), (2, .int x2), (3, .int x3), (5, .int x5)]) hx hb dX12_rests_65 hl (k := 4) rfl (by rw [ev9]; rfl) (by decide) rfl (fun ls hl => ?_)
            obtain ⟨v10, ev10, hR⟩ := lt_e hR
            refine lv_iinc (v := v10) (lv' := [(5, .int v10), (4, .int v9), (0, .ref (ad 52)), (1, .int x1), (2, .int x2), (3, .int x3)]) hx hb dX12_rests_68 hl (k := 5) rfl (by rw [ev10]; rfl) (by decide) rfl (fun ls hl => ?_)
            refine lv_goto (tgt := 22) hx hb dX12_rests_71 (by decide) ?_
            exact ih x1 x2 x3 v9 v10 T5 hR _ _ _ w (lv_sub hl [2, 3, 4, 5, 1, 0] rfl)
          · rw [if_pos c8] at hR
            refine lv_bipush (v := 10) hx hb dX12_rests_52 (by decide) ?_
            refine lv_iload hx hb dX12_rests_54 (lv_at hl 5 rfl) ?_
            refine lv_iconst (v := 4) hx hb dX12_rests_56 (by decide) ?_
            refine lv_idiv hx hb dX12_rests_57 (by decide) ?_
            refine lv_imul hx hb dX12_rests_58 ?_
            refine lv_iload hx hb dX12_rests_59 (lv_at hl 5 rfl) ?_
            refine lv_iconst (v := 4) hx hb dX12_rests_61 (by decide) ?_
            refine lv_irem hx hb dX12_rests_62 (by decide) ?_
            refine lv_iadd hx hb dX12_rests_63 ?_
            rw [hQ]
            exact rt_i X hr hlk w hsz rfl rfl (lf2 hR).1 (lf2 hR).2 dX12_rests_64
  have hl : lv_has ls 6 [(0, .ref (ad 52)), (1, .int p1), (2, .int p2), (3, .int p3)] := hl
  unfold fX12_rests at hR
  refine lv_aload_n hx hb dX12_rests_0 rfl (lv_at hl 0 rfl) ?_
  refine lv_iload_n hx hb dX12_rests_1 rfl (lv_at hl 1 rfl) ?_
  refine lv_iload_n hx hb dX12_rests_2 rfl (lv_at hl 2 rfl) ?_
  obtain ⟨r2, h1, hR⟩ := bd_e hR
  refine cVi (k := 52) (As := [.int p1, .int p2]) (rest := []) X hl.1 w okX12_areTwo obX12 rfl lmX12_352 (kX12_areTwo h1) ⟨Nat.le_of_ble_eq_true rfl, Nat.le_of_ble_eq_true rfl⟩ ⟨rfl, rfl⟩ ⟨Nat.zero_le _, Nat.zero_le _⟩ rfl rfl (Nat.le_of_ble_eq_true rfl) dX12_rests_3 (fun H locs zr2 w => ?_)
  refine lv_if_eq (tgt := 14) hx hb dX12_rests_6 (by decide) (fun c3 => ?_) (fun c3 => ?_)
  · rw [if_pos c3] at hR
    refine lv_iconst (v := -1) hx hb dX12_rests_14 (by decide) ?_
    rw [hQ]
    exact rt_i X hr hlk w hsz rfl rfl (lf2 hR).1 (lf2 hR).2 dX12_rests_15
  · rw [if_neg c3] at hR
    refine lv_iload_n hx hb dX12_rests_9 rfl (lv_at hl 3 rfl) ?_
    refine lv_iconst (v := -1) hx hb dX12_rests_10 (by decide) ?_
    refine lv_icmp_ge (tgt := 16) hx hb dX12_rests_11 (by decide) (fun c4 => ?_) (fun c4 => ?_)
    · rw [if_pos c4] at hR
      refine lv_iconst (v := 0) hx hb dX12_rests_16 (by decide) ?_
      refine lv_istore (lv' := [(4, .int 0), (0, .ref (ad 52)), (1, .int p1), (2, .int p2), (3, .int p3)]) hx hb dX12_rests_17 hl (by decide) rfl (fun ls hl => ?_)
      refine lv_iconst (v := 0) hx hb dX12_rests_19 (by decide) ?_
      refine lv_istore (lv' := [(5, .int 0), (4, .int 0), (0, .ref (ad 52)), (1, .int p1), (2, .int p2), (3, .int p3)]) hx hb dX12_rests_20 hl (by decide) rfl (fun ls hl => ?_)
      exact L22 N p1 p2 p3 0 0 T hR _ _ _ w (lv_sub hl [2, 3, 4, 5, 1, 0] rfl)
    · rw [if_neg c4] at hR
      refine lv_iconst (v := -1) hx hb dX12_rests_14 (by decide) ?_
      rw [hQ]
      exact rt_i X hr hlk w hsz rfl rfl (lf2 hR).1 (lf2 hR).2 dX12_rests_15
/- LooseEndsModel.odds(II)I -/
def fX12_odds_j73 (N : Nat) (kc32 : Int32 → Int32 → Int64 → Int32 → SS → Option (SS × Int32)) (x1 : Int32) (x2 : Int32) (x5 : Int32) (y0 : Int64) (T : SS) : Option (SS × Int32) := bd (fX12_fadeNow N T x1) fun T2 =>
  bd (fX12_fadeNow N T2 x5) fun T4 =>
  lt (x5 + 1) fun v5 =>
  kc32 x1 x2 y0 v5 T4
def fX12_odds_l32 (N : Nat) : Nat → Int32 → Int32 → Int64 → Int32 → SS → Option (SS × Int32)
  | 0, _, _, _, _, _ => none
  | n + 1, x1, x2, x3, x5, T => if (gi T 52 22) ≤ x5 then
  (bd (fX12_takeBack N T 0) fun T3 =>
  some (T3, (1000000000 - x3 : Int64).toInt32))
  else
  (bd (fX12_mayTry N T x1 x5) fun r5 =>
  if r5 = 0 then
  (lt (x5 + 1) fun v7 =>
  fX12_odds_l32 N n x1 x2 x3 v7 T)
  else
  (b2 (fX12_fitsNow N T x1 x5) fun T10 r9 =>
  if r9 = 0 then
  (fX12_odds_j73 N (fX12_odds_l32 N n) x1 x2 x5 x3 T10)
  else
  (fX12_odds_j73 N (fX12_odds_l32 N n) x1 x2 x5 ((x3 * ((x2 : Int32).toInt64)) / 100) T10)))
def fX12_odds (N : Nat) (T : SS) (p1 : Int32) (p2 : Int32) : Option (SS × Int32) := bd (fX12_isEnd N T p1) fun r2 =>
  if r2 = 0 then
  (some (T, (-1)))
  else
  (bd (fX12_in N p2 0 100) fun r5 =>
  if r5 = 0 then
  (some (T, (-1)))
  else
  (bd (fX12_putAside N T 0) fun T8 =>
  fX12_odds_l32 N N p1 p2 1000000000 0 T8))
set_option maxHeartbeats 4000000 in
set_option maxRecDepth 100000 in
theorem kX12_odds {l : Launch} {D : va_G} {dA : Nat → ClassId} {ad : Nat → Nat} {t1 t2 : Nat} {N : Nat} {S T : SS} {o : Nat → Int64} {p1 : Int32} {p2 : Int32} {r : Int32} {T' : SS} (hR : fX12_odds N T p1 p2 = some (T', r)) : KI l D dA ad t1 t2 yX12_odds cX12_odds 6 .int { frames := 8, cells := 0, slots := 0, locals := 179 } [.ref (ad 52), .int p1, .int p2] S T o r S T' := by
  intro sz
  refine en_ (plainFor_of_name (by decide)) (Nat.le_of_ble_eq_true rfl) ?_
  intro p ev s m args below meth c QQ hQ hsz X hr hlk w ls hl
  have hx := X.1
  have hb := X.2.1
  have J73 : ∀ (kc32 : Int32 → Int32 → Int64 → Int32 → SS → Option (SS × Int32)) (_ : ∀ (x1 : Int32) (x2 : Int32) (x3 : Int64) (x5 : Int32) (T : SS), kc32 x1 x2 x3 x5 T = some (T', r) → WAT p l ev ({ frames := 8, cells := 0, slots := 0, locals := 179 } : Room) s m args below meth c QQ 6 D dA ad t1 t2 S T o 32 [(0, .ref (ad 52)), (1, .int x1), (2, .int x2), (3, .long x3), (5, .int x5)] []), ∀ (x1 : Int32) (x2 : Int32) (x5 : Int32) (y0 : Int64) (T : SS), fX12_odds_j73 N kc32 x1 x2 x5 y0 T = some (T', r) → WAT p l ev ({ frames := 8, cells := 0, slots := 0, locals := 179 } : Room) s m args below meth c QQ 6 D dA ad t1 t2 S T o 73 [(0, .ref (ad 52)), (1, .int x1), (2, .int x2), (5, .int x5)] [.long y0] := by
    intro kc32 hk32 x1 x2 x5 y0 T hR H locs ls w hl
    unfold fX12_odds_j73 at hR
    refine lv_lstore_n (lv' := [(3, .long y0), (0, .ref (ad 52)), (1, .int x1), (2, .int x2), (5, .int x5)]) hx hb dX12_odds_73 rfl hl (by decide) rfl (fun ls hl => ?_)
    refine lv_aload_n hx hb dX12_odds_74 rfl (lv_at hl 1 rfl) ?_
    refine lv_iload_n hx hb dX12_odds_75 rfl (lv_at hl 2 rfl) ?_
    obtain ⟨T2, h1, hR⟩ := bd_e hR
    refine cVv (k := 52) (As := [.int x1]) (rest := []) X hl.1 w okX12_fadeNow obX12 rfl lmX12_297 (kX12_fadeNow h1) ⟨Nat.le_of_ble_eq_true rfl, Nat.le_of_ble_eq_true rfl⟩ ⟨rfl, rfl⟩ ⟨Nat.zero_le _, Nat.zero_le _⟩ rfl rfl (Nat.le_of_ble_eq_true rfl) dX12_odds_76 (fun H locs w => ?_)
    refine lv_aload_n hx hb dX12_odds_79 rfl (lv_at hl 1 rfl) ?_
    refine lv_iload hx hb dX12_odds_80 (lv_at hl 4 rfl) ?_
    obtain ⟨T4, h3, hR⟩ := bd_e hR
    refine cVv (k := 52) (As := [.int x5]) (rest := []) X hl.1 w okX12_fadeNow obX12 rfl lmX12_297 (kX12_fadeNow h3) ⟨Nat.le_of_ble_eq_true rfl, Nat.le_of_ble_eq_true rfl⟩ ⟨rfl, rfl⟩ ⟨Nat.zero_le _, Nat.zero_le _⟩ rfl rfl (Nat.le_of_ble_eq_true rfl) dX12_odds_82 (fun H locs w => ?_)
    obtain ⟨v5, ev5, hR⟩ := lt_e hR
    refine lv_iinc (v := v5) (lv' := [(5, .int v5), (3, .long y0), (0, .ref (ad 52)), (1, .int x1), (2, .int x2)]) hx hb dX12_odds_85 hl (k := 4) rfl (by rw [ev5]; rfl) (by decide) rfl (fun ls hl => ?_)
    refine lv_goto (tgt := 32) hx hb dX12_odds_88 (by decide) ?_
    exact hk32 x1 x2 y0 v5 T4 hR _ _ _ w (lv_sub hl [2, 3, 4, 1, 0] rfl)
  have L32 : ∀ (n : Nat), ∀ (x1 : Int32) (x2 : Int32) (x3 : Int64) (x5 : Int32) (T : SS), fX12_odds_l32 N n x1 x2 x3 x5 T = some (T', r) → WAT p l ev ({ frames := 8, cells := 0, slots := 0, locals := 179 } : Room) s m args below meth c QQ 6 D dA ad t1 t2 S T o 32 [(0, .ref (ad 52)), (1, .int x1), (2, .int x2), (3, .long x3), (5, .int x5)] [] := by
    intro n
    induction n with
    | zero =>
      intro x1 x2 x3 x5 T hR
      exact nomatch hR
    | succ n ih =>
      intro x1 x2 x3 x5 T hR H locs ls w hl
      rw [fX12_odds_l32] at hR
      refine lv_iload hx hb dX12_odds_32 (lv_at hl 4 rfl) ?_
      refine lv_aload_n hx hb dX12_odds_34 rfl (lv_at hl 0 rfl) ?_
      refine gX12_ends X w lfX12_245 dX12_odds_35 ?_
      refine lv_icmp_ge (tgt := 91) hx hb dX12_odds_38 (by decide) (fun c1 => ?_) (fun c1 => ?_)
      · rw [if_pos c1] at hR
        refine lv_aload_n hx hb dX12_odds_91 rfl (lv_at hl 0 rfl) ?_
        refine lv_iconst (v := 0) hx hb dX12_odds_92 (by decide) ?_
        obtain ⟨T3, h2, hR⟩ := bd_e hR
        refine cVv (k := 52) (As := [.int 0]) (rest := []) X hl.1 w okX12_takeBack obX12 rfl lmX12_385 (kX12_takeBack h2) ⟨Nat.le_of_ble_eq_true rfl, Nat.le_of_ble_eq_true rfl⟩ ⟨rfl, rfl⟩ ⟨Nat.zero_le _, Nat.zero_le _⟩ rfl rfl (Nat.le_of_ble_eq_true rfl) dX12_odds_93 (fun H locs w => ?_)
        refine lv_ldc2 X.1 X.2.1 X.2.2.2.1 (X.2.2.2.2 _ lcX12_415) dX12_odds_96 ?_
        refine lv_lload_n hx hb dX12_odds_99 rfl (lv_at hl 3 rfl) ?_
        refine lv_lsub hx hb dX12_odds_100 ?_
        refine lv_l2i hx hb dX12_odds_101 rfl ?_
        rw [hQ]
        exact rt_i X hr hlk w hsz rfl rfl (lf2 hR).1 (lf2 hR).2 dX12_odds_102
      · rw [if_neg c1] at hR
        refine lv_aload_n hx hb dX12_odds_41 rfl (lv_at hl 0 rfl) ?_
        refine lv_iload_n hx hb dX12_odds_42 rfl (lv_at hl 1 rfl) ?_
        refine lv_iload hx hb dX12_odds_43 (lv_at hl 4 rfl) ?_
        obtain ⟨r5, h4, hR⟩ := bd_e hR
        refine cVi (k := 52) (As := [.int x1, .int x5]) (rest := []) X hl.1 w okX12_mayTry obX12 rfl lmX12_309 (kX12_mayTry h4) ⟨Nat.le_of_ble_eq_true rfl, Nat.le_of_ble_eq_true rfl⟩ ⟨rfl, rfl⟩ ⟨Nat.zero_le _, Nat.zero_le _⟩ rfl rfl (Nat.le_of_ble_eq_true rfl) dX12_odds_45 (fun H locs zr5 w => ?_)
        refine lv_if_eq (tgt := 85) hx hb dX12_odds_48 (by decide) (fun c6 => ?_) (fun c6 => ?_)
        · rw [if_pos c6] at hR
          obtain ⟨v7, ev7, hR⟩ := lt_e hR
          refine lv_iinc (v := v7) (lv' := [(5, .int v7), (0, .ref (ad 52)), (1, .int x1), (2, .int x2), (3, .long x3)]) hx hb dX12_odds_85 hl (k := 4) rfl (by rw [ev7]; rfl) (by decide) rfl (fun ls hl => ?_)
          refine lv_goto (tgt := 32) hx hb dX12_odds_88 (by decide) ?_
          exact ih x1 x2 x3 v7 T hR _ _ _ w (lv_sub hl [1, 2, 3, 4, 0] rfl)
        · rw [if_neg c6] at hR
          refine lv_aload_n hx hb dX12_odds_51 rfl (lv_at hl 0 rfl) ?_
          refine lv_iload_n hx hb dX12_odds_52 rfl (lv_at hl 1 rfl) ?_
          refine lv_iload hx hb dX12_odds_53 (lv_at hl 4 rfl) ?_
          obtain ⟨T10, r9, h8, hR⟩ := b2_e hR
          refine cVi (k := 52) (As := [.int x1, .int x5]) (rest := []) X hl.1 w okX12_fitsNow obX12 rfl lmX12_294 (kX12_fitsNow h8) ⟨Nat.le_of_ble_eq_true rfl, Nat.le_of_ble_eq_true rfl⟩ ⟨rfl, rfl⟩ ⟨Nat.zero_le _, Nat.zero_le _⟩ rfl rfl (Nat.le_of_ble_eq_true rfl) dX12_odds_55 (fun H locs zr9 w => ?_)
          refine lv_if_eq (tgt := 72) hx hb dX12_odds_58 (by decide) (fun c11 => ?_) (fun c11 => ?_)
          · rw [if_pos c11] at hR
            refine lv_lload_n hx hb dX12_odds_72 rfl (lv_at hl 3 rfl) ?_
            exact J73 _ ih x1 x2 x5 x3 T10 hR _ _ _ w (lv_sub hl [0, 1, 2, 4] rfl)
          · rw [if_neg c11] at hR
            refine lv_lload_n hx hb dX12_odds_61 rfl (lv_at hl 3 rfl) ?_
            refine lv_iload_n hx hb dX12_odds_62 rfl (lv_at hl 2 rfl) ?_
            refine lv_i2l hx hb dX12_odds_63 rfl ?_
            refine lv_lmul hx hb dX12_odds_64 ?_
            refine lv_ldc2 X.1 X.2.1 X.2.2.2.1 (X.2.2.2.2 _ lcX12_417) dX12_odds_65 ?_
            refine lv_ldiv hx hb dX12_odds_68 (by decide) ?_
            refine lv_goto (tgt := 73) hx hb dX12_odds_69 (by decide) ?_
            exact J73 _ ih x1 x2 x5 ((x3 * ((x2 : Int32).toInt64)) / 100) T10 hR _ _ _ w (lv_sub hl [0, 1, 2, 4] rfl)
  have hl : lv_has ls 6 [(0, .ref (ad 52)), (1, .int p1), (2, .int p2)] := hl
  unfold fX12_odds at hR
  refine lv_aload_n hx hb dX12_odds_0 rfl (lv_at hl 0 rfl) ?_
  refine lv_iload_n hx hb dX12_odds_1 rfl (lv_at hl 1 rfl) ?_
  obtain ⟨r2, h1, hR⟩ := bd_e hR
  refine cVi (k := 52) (As := [.int p1]) (rest := []) X hl.1 w okX12_isEnd obX12 rfl lmX12_306 (kX12_isEnd h1) ⟨Nat.le_of_ble_eq_true rfl, Nat.le_of_ble_eq_true rfl⟩ ⟨rfl, rfl⟩ ⟨Nat.zero_le _, Nat.zero_le _⟩ rfl rfl (Nat.le_of_ble_eq_true rfl) dX12_odds_2 (fun H locs zr2 w => ?_)
  refine lv_if_eq (tgt := 18) hx hb dX12_odds_5 (by decide) (fun c3 => ?_) (fun c3 => ?_)
  · rw [if_pos c3] at hR
    refine lv_iconst (v := -1) hx hb dX12_odds_18 (by decide) ?_
    rw [hQ]
    exact rt_i X hr hlk w hsz rfl rfl (lf2 hR).1 (lf2 hR).2 dX12_odds_19
  · rw [if_neg c3] at hR
    refine lv_iload_n hx hb dX12_odds_8 rfl (lv_at hl 2 rfl) ?_
    refine lv_iconst (v := 0) hx hb dX12_odds_9 (by decide) ?_
    refine lv_bipush (v := 100) hx hb dX12_odds_10 (by decide) ?_
    obtain ⟨r5, h4, hR⟩ := bd_e hR
    refine cSi (As := [.int p2, .int 0, .int 100]) (rest := []) X hl.1 w okX12_in lmX12_208 (kX12_in h4) ⟨Nat.le_of_ble_eq_true rfl, Nat.le_of_ble_eq_true rfl⟩ ⟨rfl, rfl⟩ ⟨Nat.zero_le _, Nat.zero_le _⟩ rfl rfl (Nat.le_of_ble_eq_true rfl) dX12_odds_12 (fun H locs zr5 w => ?_)
    refine lv_if_ne (tgt := 20) hx hb dX12_odds_15 (by decide) (fun c6 => ?_) (fun c6 => ?_)
    · rw [if_neg c6] at hR
      refine lv_ldc2 X.1 X.2.1 X.2.2.2.1 (X.2.2.2.2 _ lcX12_415) dX12_odds_20 ?_
      refine lv_lstore_n (lv' := [(3, .long 1000000000), (0, .ref (ad 52)), (1, .int p1), (2, .int p2)]) hx hb dX12_odds_23 rfl hl (by decide) rfl (fun ls hl => ?_)
      refine lv_aload_n hx hb dX12_odds_24 rfl (lv_at hl 1 rfl) ?_
      refine lv_iconst (v := 0) hx hb dX12_odds_25 (by decide) ?_
      obtain ⟨T8, h7, hR⟩ := bd_e hR
      refine cVv (k := 52) (As := [.int 0]) (rest := []) X hl.1 w okX12_putAside obX12 rfl lmX12_378 (kX12_putAside h7) ⟨Nat.le_of_ble_eq_true rfl, Nat.le_of_ble_eq_true rfl⟩ ⟨rfl, rfl⟩ ⟨Nat.zero_le _, Nat.zero_le _⟩ rfl rfl (Nat.le_of_ble_eq_true rfl) dX12_odds_26 (fun H locs w => ?_)
      refine lv_iconst (v := 0) hx hb dX12_odds_29 (by decide) ?_
      refine lv_istore (lv' := [(5, .int 0), (3, .long 1000000000), (0, .ref (ad 52)), (1, .int p1), (2, .int p2)]) hx hb dX12_odds_30 hl (by decide) rfl (fun ls hl => ?_)
      exact L32 N p1 p2 1000000000 0 T8 hR _ _ _ w (lv_sub hl [2, 3, 4, 1, 0] rfl)
    · rw [if_pos c6] at hR
      refine lv_iconst (v := -1) hx hb dX12_odds_18 (by decide) ?_
      rw [hQ]
      exact rt_i X hr hlk w hsz rfl rfl (lf2 hR).1 (lf2 hR).2 dX12_odds_19
/- LooseEndsModel.bitOf(I)I -/
def fX12_bitOf (N : Nat) (p0 : Int32) : Option (Int32) := if p0 = (-1) then
  (some 0)
  else
  (some (sl 1 p0))
set_option maxHeartbeats 4000000 in
set_option maxRecDepth 100000 in
theorem kX12_bitOf {l : Launch} {D : va_G} {dA : Nat → ClassId} {ad : Nat → Nat} {t1 t2 : Nat} {N : Nat} {S T : SS} {o : Nat → Int64} {p0 : Int32} {r : Int32} (hR : fX12_bitOf N p0 = some r) : KI l D dA ad t1 t2 yX12_bitOf cX12_bitOf 1 .int { frames := 0, cells := 0, slots := 0, locals := 0 } [.int p0] S T o r S T := by
  intro sz
  refine en_ (plainFor_of_name (by decide)) (Nat.le_of_ble_eq_true rfl) ?_
  intro p ev s m args below meth c QQ hQ hsz X hr hlk w ls hl
  have hx := X.1
  have hb := X.2.1
  have hl : lv_has ls 1 [(0, .int p0)] := hl
  unfold fX12_bitOf at hR
  refine lv_iload_n hx hb dX12_bitOf_0 rfl (lv_at hl 0 rfl) ?_
  refine lv_iconst (v := -1) hx hb dX12_bitOf_1 (by decide) ?_
  refine lv_icmp_ne (tgt := 9) hx hb dX12_bitOf_2 (by decide) (fun c1 => ?_) (fun c1 => ?_)
  · rw [if_neg c1] at hR
    refine lv_iconst (v := 1) hx hb dX12_bitOf_9 (by decide) ?_
    refine lv_iload_n hx hb dX12_bitOf_10 rfl (lv_at hl 0 rfl) ?_
    refine lv_ishl hx hb dX12_bitOf_11 ?_
    rw [hQ]
    exact rt_i X hr hlk w hsz rfl rfl rfl (lf1 hR) dX12_bitOf_12
  · rw [if_pos c1] at hR
    refine lv_iconst (v := 0) hx hb dX12_bitOf_5 (by decide) ?_
    refine lv_goto (tgt := 12) hx hb dX12_bitOf_6 (by decide) ?_
    rw [hQ]
    exact rt_i X hr hlk w hsz rfl rfl rfl (lf1 hR) dX12_bitOf_12
/- LooseEndsModel.story(II)I -/
def fX12_story (N : Nat) (T : SS) (p1 : Int32) (p2 : Int32) : Option (Int32) := bd (fX12_isEnd N T p1) fun r2 =>
  if r2 = 0 then
  (some (-1))
  else
  (bd (fX12_in N p2 0 4) fun r5 =>
  if r5 = 0 then
  (some (-1))
  else
  (if p2 = 0 then
  (bd (fX12_firstOf N T p1) fun r9 =>
  some r9)
  else
  (if p2 = 1 then
  (bd (fX12_lastOf N T p1) fun r11 =>
  some r11)
  else
  (if p2 = 2 then
  (bd (fX12_manyOf N T p1) fun r13 =>
  some r13)
  else
  (if p2 = 3 then
  (bd (fX12_lengthOf N T p1) fun r15 =>
  some r15)
  else
  (bd (fX12_isSold N T p1) fun r17 =>
  if r17 = 0 then
  (ck (inb (14 + p1) 214) <|
  bd (fX12_bitOf N (ga T 67 (14 + p1))) fun r21 =>
  ck (inb (21 + p1) 214) <|
  bd (fX12_bitOf N (ga T 67 (21 + p1))) fun r24 =>
  some (r21 ||| r24))
  else
  (some 0)))))))
set_option maxHeartbeats 4000000 in
set_option maxRecDepth 100000 in
theorem kX12_story {l : Launch} {D : va_G} {dA : Nat → ClassId} {ad : Nat → Nat} {t1 t2 : Nat} {N : Nat} {S T : SS} {o : Nat → Int64} {p1 : Int32} {p2 : Int32} {r : Int32} (hR : fX12_story N T p1 p2 = some r) : KI l D dA ad t1 t2 yX12_story cX12_story 3 .int { frames := 2, cells := 0, slots := 0, locals := 45 } [.ref (ad 52), .int p1, .int p2] S T o r S T := by
  intro sz
  refine en_ (plainFor_of_name (by decide)) (Nat.le_of_ble_eq_true rfl) ?_
  intro p ev s m args below meth c QQ hQ hsz X hr hlk w ls hl
  have hx := X.1
  have hb := X.2.1
  have hl : lv_has ls 3 [(0, .ref (ad 52)), (1, .int p1), (2, .int p2)] := hl
  unfold fX12_story at hR
  refine lv_aload_n hx hb dX12_story_0 rfl (lv_at hl 0 rfl) ?_
  refine lv_iload_n hx hb dX12_story_1 rfl (lv_at hl 1 rfl) ?_
  obtain ⟨r2, h1, hR⟩ := bd_e hR
  refine cVi (k := 52) (As := [.int p1]) (rest := []) X hl.1 w okX12_isEnd obX12 rfl lmX12_306 (kX12_isEnd h1) ⟨Nat.le_of_ble_eq_true rfl, Nat.le_of_ble_eq_true rfl⟩ ⟨rfl, rfl⟩ ⟨Nat.zero_le _, Nat.zero_le _⟩ rfl rfl (Nat.le_of_ble_eq_true rfl) dX12_story_2 (fun H locs zr2 w => ?_)
  refine lv_if_eq (tgt := 17) hx hb dX12_story_5 (by decide) (fun c3 => ?_) (fun c3 => ?_)
  · rw [if_pos c3] at hR
    refine lv_iconst (v := -1) hx hb dX12_story_17 (by decide) ?_
    rw [hQ]
    exact rt_i X hr hlk w hsz rfl rfl rfl (lf1 hR) dX12_story_18
  · rw [if_neg c3] at hR
    refine lv_iload_n hx hb dX12_story_8 rfl (lv_at hl 2 rfl) ?_
    refine lv_iconst (v := 0) hx hb dX12_story_9 (by decide) ?_
    refine lv_iconst (v := 4) hx hb dX12_story_10 (by decide) ?_
    obtain ⟨r5, h4, hR⟩ := bd_e hR
    refine cSi (As := [.int p2, .int 0, .int 4]) (rest := []) X hl.1 w okX12_in lmX12_208 (kX12_in h4) ⟨Nat.le_of_ble_eq_true rfl, Nat.le_of_ble_eq_true rfl⟩ ⟨rfl, rfl⟩ ⟨Nat.zero_le _, Nat.zero_le _⟩ rfl rfl (Nat.le_of_ble_eq_true rfl) dX12_story_11 (fun H locs zr5 w => ?_)
    refine lv_if_ne (tgt := 19) hx hb dX12_story_14 (by decide) (fun c6 => ?_) (fun c6 => ?_)
    · rw [if_neg c6] at hR
      refine lv_iload_n hx hb dX12_story_19 rfl (lv_at hl 2 rfl) ?_
      by_cases c7_0 : p2 = 0
      · rw [if_pos c7_0] at hR
        refine lv_tableIn (tgt := 52) hx hb dX12_story_20 (by rw [c7_0]; decide) (by rw [c7_0]; decide) (by rw [c7_0]; rfl) (by decide) ?_
        refine lv_aload_n hx hb dX12_story_52 rfl (lv_at hl 0 rfl) ?_
        refine lv_iload_n hx hb dX12_story_53 rfl (lv_at hl 1 rfl) ?_
        obtain ⟨r9, h8, hR⟩ := bd_e hR
        refine cVi (k := 52) (As := [.int p1]) (rest := []) X hl.1 w okX12_firstOf obX12 rfl lmX12_273 (kX12_firstOf h8) ⟨Nat.le_of_ble_eq_true rfl, Nat.le_of_ble_eq_true rfl⟩ ⟨rfl, rfl⟩ ⟨Nat.zero_le _, Nat.zero_le _⟩ rfl rfl (Nat.le_of_ble_eq_true rfl) dX12_story_54 (fun H locs zr9 w => ?_)
        rw [hQ]
        exact rt_i X hr hlk w hsz rfl rfl rfl (lf1 hR) dX12_story_57
      · rw [if_neg c7_0] at hR
        by_cases c7_1 : p2 = 1
        · rw [if_pos c7_1] at hR
          refine lv_tableIn (tgt := 58) hx hb dX12_story_20 (by rw [c7_1]; decide) (by rw [c7_1]; decide) (by rw [c7_1]; rfl) (by decide) ?_
          refine lv_aload_n hx hb dX12_story_58 rfl (lv_at hl 0 rfl) ?_
          refine lv_iload_n hx hb dX12_story_59 rfl (lv_at hl 1 rfl) ?_
          obtain ⟨r11, h10, hR⟩ := bd_e hR
          refine cVi (k := 52) (As := [.int p1]) (rest := []) X hl.1 w okX12_lastOf obX12 rfl lmX12_419 (kX12_lastOf h10) ⟨Nat.le_of_ble_eq_true rfl, Nat.le_of_ble_eq_true rfl⟩ ⟨rfl, rfl⟩ ⟨Nat.zero_le _, Nat.zero_le _⟩ rfl rfl (Nat.le_of_ble_eq_true rfl) dX12_story_60 (fun H locs zr11 w => ?_)
          rw [hQ]
          exact rt_i X hr hlk w hsz rfl rfl rfl (lf1 hR) dX12_story_63
        · rw [if_neg c7_1] at hR
          by_cases c7_2 : p2 = 2
          · rw [if_pos c7_2] at hR
            refine lv_tableIn (tgt := 64) hx hb dX12_story_20 (by rw [c7_2]; decide) (by rw [c7_2]; decide) (by rw [c7_2]; rfl) (by decide) ?_
            refine lv_aload_n hx hb dX12_story_64 rfl (lv_at hl 0 rfl) ?_
            refine lv_iload_n hx hb dX12_story_65 rfl (lv_at hl 1 rfl) ?_
            obtain ⟨r13, h12, hR⟩ := bd_e hR
            refine cVi (k := 52) (As := [.int p1]) (rest := []) X hl.1 w okX12_manyOf obX12 rfl lmX12_286 (kX12_manyOf h12) ⟨Nat.le_of_ble_eq_true rfl, Nat.le_of_ble_eq_true rfl⟩ ⟨rfl, rfl⟩ ⟨Nat.zero_le _, Nat.zero_le _⟩ rfl rfl (Nat.le_of_ble_eq_true rfl) dX12_story_66 (fun H locs zr13 w => ?_)
            rw [hQ]
            exact rt_i X hr hlk w hsz rfl rfl rfl (lf1 hR) dX12_story_69
          · rw [if_neg c7_2] at hR
            by_cases c7_3 : p2 = 3
            · rw [if_pos c7_3] at hR
              refine lv_tableIn (tgt := 70) hx hb dX12_story_20 (by rw [c7_3]; decide) (by rw [c7_3]; decide) (by rw [c7_3]; rfl) (by decide) ?_
              refine lv_aload_n hx hb dX12_story_70 rfl (lv_at hl 0 rfl) ?_
              refine lv_iload_n hx hb dX12_story_71 rfl (lv_at hl 1 rfl) ?_
              obtain ⟨r15, h14, hR⟩ := bd_e hR
              refine cVi (k := 52) (As := [.int p1]) (rest := []) X hl.1 w okX12_lengthOf obX12 rfl lmX12_303 (kX12_lengthOf h14) ⟨Nat.le_of_ble_eq_true rfl, Nat.le_of_ble_eq_true rfl⟩ ⟨rfl, rfl⟩ ⟨Nat.zero_le _, Nat.zero_le _⟩ rfl rfl (Nat.le_of_ble_eq_true rfl) dX12_story_72 (fun H locs zr15 w => ?_)
              rw [hQ]
              exact rt_i X hr hlk w hsz rfl rfl rfl (lf1 hR) dX12_story_75
            · rw [if_neg c7_3] at hR
              have hh0 := ne_int (n := 0) (by decide) c7_0
              have hh1 := ne_int (n := 1) (by decide) c7_1
              have hh2 := ne_int (n := 2) (by decide) c7_2
              have hh3 := ne_int (n := 3) (by decide) c7_3
              refine lv_tableOut (tgt := 76) hx hb dX12_story_20 (by omega) (by decide) ?_
              refine lv_aload_n hx hb dX12_story_76 rfl (lv_at hl 0 rfl) ?_
              refine lv_iload_n hx hb dX12_story_77 rfl (lv_at hl 1 rfl) ?_
              obtain ⟨r17, h16, hR⟩ := bd_e hR
              refine cVi (k := 52) (As := [.int p1]) (rest := []) X hl.1 w okX12_isSold obX12 rfl lmX12_267 (kX12_isSold h16) ⟨Nat.le_of_ble_eq_true rfl, Nat.le_of_ble_eq_true rfl⟩ ⟨rfl, rfl⟩ ⟨Nat.zero_le _, Nat.zero_le _⟩ rfl rfl (Nat.le_of_ble_eq_true rfl) dX12_story_78 (fun H locs zr17 w => ?_)
              refine lv_if_eq (tgt := 88) hx hb dX12_story_81 (by decide) (fun c18 => ?_) (fun c18 => ?_)
              · rw [if_pos c18] at hR
                refine lv_aload_n hx hb dX12_story_88 rfl (lv_at hl 0 rfl) ?_
                refine gX12_now X w lfX12_52 dX12_story_89 ?_
                refine lv_bipush (v := 14) hx hb dX12_story_92 (by decide) ?_
                refine lv_iload_n hx hb dX12_story_94 rfl (lv_at hl 1 rfl) ?_
                refine lv_iadd hx hb dX12_story_95 ?_
                obtain ⟨g19, hR⟩ := ck_e hR
                refine ialT (n := 214) rfl (by decide) X w rfl g19 dX12_story_96 ?_
                obtain ⟨r21, h20, hR⟩ := bd_e hR
                refine cSi (As := [.int (ga T 67 (14 + p1))]) (rest := []) X hl.1 w okX12_bitOf lmX12_422 (kX12_bitOf h20) ⟨Nat.le_of_ble_eq_true rfl, Nat.le_of_ble_eq_true rfl⟩ ⟨rfl, rfl⟩ ⟨Nat.zero_le _, Nat.zero_le _⟩ rfl rfl (Nat.le_of_ble_eq_true rfl) dX12_story_97 (fun H locs zr21 w => ?_)
                refine lv_aload_n hx hb dX12_story_100 rfl (lv_at hl 0 rfl) ?_
                refine gX12_now X w lfX12_52 dX12_story_101 ?_
                refine lv_bipush (v := 21) hx hb dX12_story_104 (by decide) ?_
                refine lv_iload_n hx hb dX12_story_106 rfl (lv_at hl 1 rfl) ?_
                refine lv_iadd hx hb dX12_story_107 ?_
                obtain ⟨g22, hR⟩ := ck_e hR
                refine ialT (n := 214) rfl (by decide) X w rfl g22 dX12_story_108 ?_
                obtain ⟨r24, h23, hR⟩ := bd_e hR
                refine cSi (As := [.int (ga T 67 (21 + p1))]) (rest := [.int r21]) X hl.1 w okX12_bitOf lmX12_422 (kX12_bitOf h23) ⟨Nat.le_of_ble_eq_true rfl, Nat.le_of_ble_eq_true rfl⟩ ⟨rfl, rfl⟩ ⟨Nat.zero_le _, Nat.zero_le _⟩ rfl rfl (Nat.le_of_ble_eq_true rfl) dX12_story_109 (fun H locs zr24 w => ?_)
                refine lv_ior hx hb dX12_story_112 ?_
                rw [hQ]
                exact rt_i X hr hlk w hsz rfl rfl rfl (lf1 hR) dX12_story_113
              · rw [if_neg c18] at hR
                refine lv_iconst (v := 0) hx hb dX12_story_84 (by decide) ?_
                refine lv_goto (tgt := 113) hx hb dX12_story_85 (by decide) ?_
                rw [hQ]
                exact rt_i X hr hlk w hsz rfl rfl rfl (lf1 hR) dX12_story_113
    · rw [if_pos c6] at hR
      refine lv_iconst (v := -1) hx hb dX12_story_17 (by decide) ?_
      rw [hQ]
      exact rt_i X hr hlk w hsz rfl rfl rfl (lf1 hR) dX12_story_18
/- LooseEndsModel.shares(II)I -/
def fX12_shares_l26 (N : Nat) : Nat → Int32 → Int32 → Int32 → Int32 → SS → Option (Int32)
  | 0, _, _, _, _, _ => none
  | n + 1, x1, x2, x3, x4, T => if (gi T 52 22) ≤ x4 then
  (ck (inb (7 + x1) 214) <|
  ck (decide (¬ x3 = 0)) <|
  some ((x2 * (ga T 67 (7 + x1))) / x3))
  else
  (ck (inb (7 + x4) 214) <|
  lt (x3 + (ga T 67 (7 + x4))) fun v5 =>
  lt (x4 + 1) fun v6 =>
  fX12_shares_l26 N n x1 x2 v5 v6 T)
def fX12_shares (N : Nat) (T : SS) (p1 : Int32) (p2 : Int32) : Option (Int32) := bd (fX12_isEnd N T p1) fun r2 =>
  if r2 = 0 then
  (some (-1))
  else
  (bd (fX12_in N p2 0 999) fun r5 =>
  if r5 = 0 then
  (some (-1))
  else
  (fX12_shares_l26 N N p1 p2 0 0 T))
set_option maxHeartbeats 4000000 in
set_option maxRecDepth 100000 in
theorem kX12_shares {l : Launch} {D : va_G} {dA : Nat → ClassId} {ad : Nat → Nat} {t1 t2 : Nat} {N : Nat} {S T : SS} {o : Nat → Int64} {p1 : Int32} {p2 : Int32} {r : Int32} (hR : fX12_shares N T p1 p2 = some r) : KI l D dA ad t1 t2 yX12_shares cX12_shares 5 .int { frames := 2, cells := 0, slots := 0, locals := 43 } [.ref (ad 52), .int p1, .int p2] S T o r S T := by
  intro sz
  refine en_ (plainFor_of_name (by decide)) (Nat.le_of_ble_eq_true rfl) ?_
  intro p ev s m args below meth c QQ hQ hsz X hr hlk w ls hl
  have hx := X.1
  have hb := X.2.1
  have L26 : ∀ (n : Nat), ∀ (x1 : Int32) (x2 : Int32) (x3 : Int32) (x4 : Int32), fX12_shares_l26 N n x1 x2 x3 x4 T = some r → WAT p l ev ({ frames := 2, cells := 0, slots := 0, locals := 43 } : Room) s m args below meth c QQ 5 D dA ad t1 t2 S T o 26 [(0, .ref (ad 52)), (1, .int x1), (2, .int x2), (3, .int x3), (4, .int x4)] [] := by
    intro n
    induction n with
    | zero =>
      intro x1 x2 x3 x4 hR
      exact nomatch hR
    | succ n ih =>
      intro x1 x2 x3 x4 hR H locs ls w hl
      rw [fX12_shares_l26] at hR
      refine lv_iload hx hb dX12_shares_26 (lv_at hl 4 rfl) ?_
      refine lv_aload_n hx hb dX12_shares_28 rfl (lv_at hl 0 rfl) ?_
      refine gX12_ends X w lfX12_245 dX12_shares_29 ?_
      refine lv_icmp_ge (tgt := 54) hx hb dX12_shares_32 (by decide) (fun c1 => ?_) (fun c1 => ?_)
      · rw [if_pos c1] at hR
        refine lv_iload_n hx hb dX12_shares_54 rfl (lv_at hl 2 rfl) ?_
        refine lv_aload_n hx hb dX12_shares_55 rfl (lv_at hl 0 rfl) ?_
        refine gX12_now X w lfX12_52 dX12_shares_56 ?_
        refine lv_bipush (v := 7) hx hb dX12_shares_59 (by decide) ?_
        refine lv_iload_n hx hb dX12_shares_61 rfl (lv_at hl 1 rfl) ?_
        refine lv_iadd hx hb dX12_shares_62 ?_
        obtain ⟨g2, hR⟩ := ck_e hR
        refine ialT (n := 214) rfl (by decide) X w rfl g2 dX12_shares_63 ?_
        refine lv_imul hx hb dX12_shares_64 ?_
        refine lv_iload_n hx hb dX12_shares_65 rfl (lv_at hl 3 rfl) ?_
        obtain ⟨g3, hR⟩ := ck_e hR
        refine lv_idiv hx hb dX12_shares_66 (of_decide_eq_true g3) ?_
        rw [hQ]
        exact rt_i X hr hlk w hsz rfl rfl rfl (lf1 hR) dX12_shares_67
      · rw [if_neg c1] at hR
        refine lv_iload_n hx hb dX12_shares_35 rfl (lv_at hl 3 rfl) ?_
        refine lv_aload_n hx hb dX12_shares_36 rfl (lv_at hl 0 rfl) ?_
        refine gX12_now X w lfX12_52 dX12_shares_37 ?_
        refine lv_bipush (v := 7) hx hb dX12_shares_40 (by decide) ?_
        refine lv_iload hx hb dX12_shares_42 (lv_at hl 4 rfl) ?_
        refine lv_iadd hx hb dX12_shares_44 ?_
        obtain ⟨g4, hR⟩ := ck_e hR
        refine ialT (n := 214) rfl (by decide) X w rfl g4 dX12_shares_45 ?_
        refine lv_iadd hx hb dX12_shares_46 ?_
        obtain ⟨v5, ev5, hR⟩ := lt_e hR
        refine nm_i ev5 ?_
        refine lv_istore_n (lv' := [(3, .int v5), (0, .ref (ad 52)), (1, .int x1), (2, .int x2), (4, .int x4)]) hx hb dX12_shares_47 rfl hl (by decide) rfl (fun ls hl => ?_)
        obtain ⟨v6, ev6, hR⟩ := lt_e hR
        refine lv_iinc (v := v6) (lv' := [(4, .int v6), (3, .int v5), (0, .ref (ad 52)), (1, .int x1), (2, .int x2)]) hx hb dX12_shares_48 hl (k := 4) rfl (by rw [ev6]; rfl) (by decide) rfl (fun ls hl => ?_)
        refine lv_goto (tgt := 26) hx hb dX12_shares_51 (by decide) ?_
        exact ih x1 x2 v5 v6 hR _ _ _ w (lv_sub hl [2, 3, 4, 1, 0] rfl)
  have hl : lv_has ls 5 [(0, .ref (ad 52)), (1, .int p1), (2, .int p2)] := hl
  unfold fX12_shares at hR
  refine lv_aload_n hx hb dX12_shares_0 rfl (lv_at hl 0 rfl) ?_
  refine lv_iload_n hx hb dX12_shares_1 rfl (lv_at hl 1 rfl) ?_
  obtain ⟨r2, h1, hR⟩ := bd_e hR
  refine cVi (k := 52) (As := [.int p1]) (rest := []) X hl.1 w okX12_isEnd obX12 rfl lmX12_306 (kX12_isEnd h1) ⟨Nat.le_of_ble_eq_true rfl, Nat.le_of_ble_eq_true rfl⟩ ⟨rfl, rfl⟩ ⟨Nat.zero_le _, Nat.zero_le _⟩ rfl rfl (Nat.le_of_ble_eq_true rfl) dX12_shares_2 (fun H locs zr2 w => ?_)
  refine lv_if_eq (tgt := 19) hx hb dX12_shares_5 (by decide) (fun c3 => ?_) (fun c3 => ?_)
  · rw [if_pos c3] at hR
    refine lv_iconst (v := -1) hx hb dX12_shares_19 (by decide) ?_
    rw [hQ]
    exact rt_i X hr hlk w hsz rfl rfl rfl (lf1 hR) dX12_shares_20
  · rw [if_neg c3] at hR
    refine lv_iload_n hx hb dX12_shares_8 rfl (lv_at hl 2 rfl) ?_
    refine lv_iconst (v := 0) hx hb dX12_shares_9 (by decide) ?_
    refine lv_sipush (v := 999) hx hb dX12_shares_10 (by decide) ?_
    obtain ⟨r5, h4, hR⟩ := bd_e hR
    refine cSi (As := [.int p2, .int 0, .int 999]) (rest := []) X hl.1 w okX12_in lmX12_208 (kX12_in h4) ⟨Nat.le_of_ble_eq_true rfl, Nat.le_of_ble_eq_true rfl⟩ ⟨rfl, rfl⟩ ⟨Nat.zero_le _, Nat.zero_le _⟩ rfl rfl (Nat.le_of_ble_eq_true rfl) dX12_shares_13 (fun H locs zr5 w => ?_)
    refine lv_if_ne (tgt := 21) hx hb dX12_shares_16 (by decide) (fun c6 => ?_) (fun c6 => ?_)
    · rw [if_neg c6] at hR
      refine lv_iconst (v := 0) hx hb dX12_shares_21 (by decide) ?_
      refine lv_istore_n (lv' := [(3, .int 0), (0, .ref (ad 52)), (1, .int p1), (2, .int p2)]) hx hb dX12_shares_22 rfl hl (by decide) rfl (fun ls hl => ?_)
      refine lv_iconst (v := 0) hx hb dX12_shares_23 (by decide) ?_
      refine lv_istore (lv' := [(4, .int 0), (3, .int 0), (0, .ref (ad 52)), (1, .int p1), (2, .int p2)]) hx hb dX12_shares_24 hl (by decide) rfl (fun ls hl => ?_)
      exact L26 N p1 p2 0 0 hR _ _ _ w (lv_sub hl [2, 3, 4, 1, 0] rfl)
    · rw [if_pos c6] at hR
      refine lv_iconst (v := -1) hx hb dX12_shares_19 (by decide) ?_
      rw [hQ]
      exact rt_i X hr hlk w hsz rfl rfl rfl (lf1 hR) dX12_shares_20
/- LooseEndsModel.valueOf(II)I -/
def fX12_valueOf (N : Nat) (T : SS) (p1 : Int32) (p2 : Int32) : Option (Int32) := if p2 = 0 then
  (ck (inb (7 + p1) 214) <|
  some (ga T 67 (7 + p1)))
  else
  (if p2 = 1 then
  (ck (inb (0 + p1) 214) <|
  some (ga T 67 (0 + p1)))
  else
  (bd (fX12_of N T p1 1) fun r4 =>
  some r4))
set_option maxHeartbeats 4000000 in
set_option maxRecDepth 100000 in
theorem kX12_valueOf {l : Launch} {D : va_G} {dA : Nat → ClassId} {ad : Nat → Nat} {t1 t2 : Nat} {N : Nat} {S T : SS} {o : Nat → Int64} {p1 : Int32} {p2 : Int32} {r : Int32} (hR : fX12_valueOf N T p1 p2 = some r) : KI l D dA ad t1 t2 yX12_valueOf cX12_valueOf 3 .int { frames := 1, cells := 0, slots := 0, locals := 22 } [.ref (ad 52), .int p1, .int p2] S T o r S T := by
  intro sz
  refine en_ (plainFor_of_name (by decide)) (Nat.le_of_ble_eq_true rfl) ?_
  intro p ev s m args below meth c QQ hQ hsz X hr hlk w ls hl
  have hx := X.1
  have hb := X.2.1
  have hl : lv_has ls 3 [(0, .ref (ad 52)), (1, .int p1), (2, .int p2)] := hl
  unfold fX12_valueOf at hR
  refine lv_iload_n hx hb dX12_valueOf_0 rfl (lv_at hl 2 rfl) ?_
  refine lv_if_ne (tgt := 16) hx hb dX12_valueOf_1 (by decide) (fun c1 => ?_) (fun c1 => ?_)
  · rw [if_neg c1] at hR
    refine lv_iload_n hx hb dX12_valueOf_16 rfl (lv_at hl 2 rfl) ?_
    refine lv_iconst (v := 1) hx hb dX12_valueOf_17 (by decide) ?_
    refine lv_icmp_ne (tgt := 32) hx hb dX12_valueOf_18 (by decide) (fun c2 => ?_) (fun c2 => ?_)
    · rw [if_neg c2] at hR
      refine lv_aload_n hx hb dX12_valueOf_32 rfl (lv_at hl 0 rfl) ?_
      refine lv_iload_n hx hb dX12_valueOf_33 rfl (lv_at hl 1 rfl) ?_
      refine lv_iconst (v := 1) hx hb dX12_valueOf_34 (by decide) ?_
      obtain ⟨r4, h3, hR⟩ := bd_e hR
      refine cVi (k := 52) (As := [.int p1, .int 1]) (rest := []) X hl.1 w okX12_of obX12 rfl lmX12_248 (kX12_of h3) ⟨Nat.le_of_ble_eq_true rfl, Nat.le_of_ble_eq_true rfl⟩ ⟨rfl, rfl⟩ ⟨Nat.zero_le _, Nat.zero_le _⟩ rfl rfl (Nat.le_of_ble_eq_true rfl) dX12_valueOf_35 (fun H locs zr4 w => ?_)
      rw [hQ]
      exact rt_i X hr hlk w hsz rfl rfl rfl (lf1 hR) dX12_valueOf_38
    · rw [if_pos c2] at hR
      refine lv_aload_n hx hb dX12_valueOf_21 rfl (lv_at hl 0 rfl) ?_
      refine gX12_now X w lfX12_52 dX12_valueOf_22 ?_
      refine lv_iconst (v := 0) hx hb dX12_valueOf_25 (by decide) ?_
      refine lv_iload_n hx hb dX12_valueOf_26 rfl (lv_at hl 1 rfl) ?_
      refine lv_iadd hx hb dX12_valueOf_27 ?_
      obtain ⟨g5, hR⟩ := ck_e hR
      refine ialT (n := 214) rfl (by decide) X w rfl g5 dX12_valueOf_28 ?_
      refine lv_goto (tgt := 38) hx hb dX12_valueOf_29 (by decide) ?_
      rw [hQ]
      exact rt_i X hr hlk w hsz rfl rfl rfl (lf1 hR) dX12_valueOf_38
  · rw [if_pos c1] at hR
    refine lv_aload_n hx hb dX12_valueOf_4 rfl (lv_at hl 0 rfl) ?_
    refine gX12_now X w lfX12_52 dX12_valueOf_5 ?_
    refine lv_bipush (v := 7) hx hb dX12_valueOf_8 (by decide) ?_
    refine lv_iload_n hx hb dX12_valueOf_10 rfl (lv_at hl 1 rfl) ?_
    refine lv_iadd hx hb dX12_valueOf_11 ?_
    obtain ⟨g6, hR⟩ := ck_e hR
    refine ialT (n := 214) rfl (by decide) X w rfl g6 dX12_valueOf_12 ?_
    refine lv_goto (tgt := 38) hx hb dX12_valueOf_13 (by decide) ?_
    rw [hQ]
    exact rt_i X hr hlk w hsz rfl rfl rfl (lf1 hR) dX12_valueOf_38
/- LooseEndsModel.topBy(I)I -/
def fX12_topBy_l4 (N : Nat) : Nat → Int32 → Int32 → Int32 → SS → Option (Int32)
  | 0, _, _, _, _ => none
  | n + 1, x1, x2, x3, T => if (gi T 52 22) ≤ x3 then
  (some x2)
  else
  (bd (fX12_valueOf N T x3 x1) fun r3 =>
  bd (fX12_valueOf N T x2 x1) fun r5 =>
  if r3 ≤ r5 then
  (lt (x3 + 1) fun v7 =>
  fX12_topBy_l4 N n x1 x2 v7 T)
  else
  (lt (x3 + 1) fun v8 =>
  fX12_topBy_l4 N n x1 x3 v8 T))
def fX12_topBy (N : Nat) (T : SS) (p1 : Int32) : Option (Int32) := fX12_topBy_l4 N N p1 0 1 T
set_option maxHeartbeats 4000000 in
set_option maxRecDepth 100000 in
theorem kX12_topBy {l : Launch} {D : va_G} {dA : Nat → ClassId} {ad : Nat → Nat} {t1 t2 : Nat} {N : Nat} {S T : SS} {o : Nat → Int64} {p1 : Int32} {r : Int32} (hR : fX12_topBy N T p1 = some r) : KI l D dA ad t1 t2 yX12_topBy cX12_topBy 4 .int { frames := 2, cells := 0, slots := 0, locals := 44 } [.ref (ad 52), .int p1] S T o r S T := by
  intro sz
  refine en_ (plainFor_of_name (by decide)) (Nat.le_of_ble_eq_true rfl) ?_
  intro p ev s m args below meth c QQ hQ hsz X hr hlk w ls hl
  have hx := X.1
  have hb := X.2.1
  have L4 : ∀ (n : Nat), ∀ (x1 : Int32) (x2 : Int32) (x3 : Int32), fX12_topBy_l4 N n x1 x2 x3 T = some r → WAT p l ev ({ frames := 2, cells := 0, slots := 0, locals := 44 } : Room) s m args below meth c QQ 4 D dA ad t1 t2 S T o 4 [(0, .ref (ad 52)), (1, .int x1), (2, .int x2), (3, .int x3)] [] := by
    intro n
    induction n with
    | zero =>
      intro x1 x2 x3 hR
      exact nomatch hR
    | succ n ih =>
      intro x1 x2 x3 hR H locs ls w hl
      rw [fX12_topBy_l4] at hR
      refine lv_iload_n hx hb dX12_topBy_4 rfl (lv_at hl 3 rfl) ?_
      refine lv_aload_n hx hb dX12_topBy_5 rfl (lv_at hl 0 rfl) ?_
      refine gX12_ends X w lfX12_245 dX12_topBy_6 ?_
      refine lv_icmp_ge (tgt := 39) hx hb dX12_topBy_9 (by decide) (fun c1 => ?_) (fun c1 => ?_)
      · rw [if_pos c1] at hR
        refine lv_iload_n hx hb dX12_topBy_39 rfl (lv_at hl 2 rfl) ?_
        rw [hQ]
        exact rt_i X hr hlk w hsz rfl rfl rfl (lf1 hR) dX12_topBy_40
      · rw [if_neg c1] at hR
        refine lv_aload_n hx hb dX12_topBy_12 rfl (lv_at hl 0 rfl) ?_
        refine lv_iload_n hx hb dX12_topBy_13 rfl (lv_at hl 3 rfl) ?_
        refine lv_iload_n hx hb dX12_topBy_14 rfl (lv_at hl 1 rfl) ?_
        obtain ⟨r3, h2, hR⟩ := bd_e hR
        refine cVi (k := 52) (As := [.int x3, .int x1]) (rest := []) X hl.1 w okX12_valueOf obX12 rfl lmX12_425 (kX12_valueOf h2) ⟨Nat.le_of_ble_eq_true rfl, Nat.le_of_ble_eq_true rfl⟩ ⟨rfl, rfl⟩ ⟨Nat.zero_le _, Nat.zero_le _⟩ rfl rfl (Nat.le_of_ble_eq_true rfl) dX12_topBy_15 (fun H locs zr3 w => ?_)
        refine lv_aload_n hx hb dX12_topBy_18 rfl (lv_at hl 0 rfl) ?_
        refine lv_iload_n hx hb dX12_topBy_19 rfl (lv_at hl 2 rfl) ?_
        refine lv_iload_n hx hb dX12_topBy_20 rfl (lv_at hl 1 rfl) ?_
        obtain ⟨r5, h4, hR⟩ := bd_e hR
        refine cVi (k := 52) (As := [.int x2, .int x1]) (rest := [.int r3]) X hl.1 w okX12_valueOf obX12 rfl lmX12_425 (kX12_valueOf h4) ⟨Nat.le_of_ble_eq_true rfl, Nat.le_of_ble_eq_true rfl⟩ ⟨rfl, rfl⟩ ⟨Nat.zero_le _, Nat.zero_le _⟩ rfl rfl (Nat.le_of_ble_eq_true rfl) dX12_topBy_21 (fun H locs zr5 w => ?_)
        refine lv_icmp_le (tgt := 31) hx hb dX12_topBy_24 (by decide) (fun c6 => ?_) (fun c6 => ?_)
        · rw [if_pos c6] at hR
          refine lv_iload_n hx hb dX12_topBy_31 rfl (lv_at hl 2 rfl) ?_
          refine lv_istore_n (lv' := [(2, .int x2), (0, .ref (ad 52)), (1, .int x1), (3, .int x3)]) hx hb dX12_topBy_32 rfl hl (by decide) rfl (fun ls hl => ?_)
          obtain ⟨v7, ev7, hR⟩ := lt_e hR
          refine lv_iinc (v := v7) (lv' := [(3, .int v7), (2, .int x2), (0, .ref (ad 52)), (1, .int x1)]) hx hb dX12_topBy_33 hl (k := 3) rfl (by rw [ev7]; rfl) (by decide) rfl (fun ls hl => ?_)
          refine lv_goto (tgt := 4) hx hb dX12_topBy_36 (by decide) ?_
          exact ih x1 x2 v7 hR _ _ _ w (lv_sub hl [2, 3, 1, 0] rfl)
        · rw [if_neg c6] at hR
          refine lv_iload_n hx hb dX12_topBy_27 rfl (lv_at hl 3 rfl) ?_
          refine lv_goto (tgt := 32) hx hb dX12_topBy_28 (by decide) ?_
          refine lv_istore_n (lv' := [(2, .int x3), (0, .ref (ad 52)), (1, .int x1), (3, .int x3)]) hx hb dX12_topBy_32 rfl hl (by decide) rfl (fun ls hl => ?_)
          obtain ⟨v8, ev8, hR⟩ := lt_e hR
          refine lv_iinc (v := v8) (lv' := [(3, .int v8), (2, .int x3), (0, .ref (ad 52)), (1, .int x1)]) hx hb dX12_topBy_33 hl (k := 3) rfl (by rw [ev8]; rfl) (by decide) rfl (fun ls hl => ?_)
          refine lv_goto (tgt := 4) hx hb dX12_topBy_36 (by decide) ?_
          exact ih x1 x3 v8 hR _ _ _ w (lv_sub hl [2, 3, 1, 0] rfl)
  have hl : lv_has ls 4 [(0, .ref (ad 52)), (1, .int p1)] := hl
  unfold fX12_topBy at hR
  refine lv_iconst (v := 0) hx hb dX12_topBy_0 (by decide) ?_
  refine lv_istore_n (lv' := [(2, .int 0), (0, .ref (ad 52)), (1, .int p1)]) hx hb dX12_topBy_1 rfl hl (by decide) rfl (fun ls hl => ?_)
  refine lv_iconst (v := 1) hx hb dX12_topBy_2 (by decide) ?_
  refine lv_istore_n (lv' := [(3, .int 1), (2, .int 0), (0, .ref (ad 52)), (1, .int p1)]) hx hb dX12_topBy_3 rfl hl (by decide) rfl (fun ls hl => ?_)
  exact L4 N p1 0 1 hR _ _ _ w (lv_sub hl [2, 3, 1, 0] rfl)
/- LooseEndsModel.looseOnes()I -/
def fX12_looseOnes_l4 (N : Nat) : Nat → Int32 → Int32 → SS → Option (Int32)
  | 0, _, _, _ => none
  | n + 1, x1, x2, T => if (gi T 52 22) ≤ x2 then
  (some x1)
  else
  (bd (fX12_isLoose N T x2) fun r3 =>
  if r3 = 0 then
  (lt (x1 ||| 0) fun v5 =>
  lt (x2 + 1) fun v6 =>
  fX12_looseOnes_l4 N n v5 v6 T)
  else
  (lt (x1 ||| (sl 1 x2)) fun v7 =>
  lt (x2 + 1) fun v8 =>
  fX12_looseOnes_l4 N n v7 v8 T))
def fX12_looseOnes (N : Nat) (T : SS) : Option (Int32) := fX12_looseOnes_l4 N N 0 0 T
set_option maxHeartbeats 4000000 in
set_option maxRecDepth 100000 in
theorem kX12_looseOnes {l : Launch} {D : va_G} {dA : Nat → ClassId} {ad : Nat → Nat} {t1 t2 : Nat} {N : Nat} {S T : SS} {o : Nat → Int64} {r : Int32} (hR : fX12_looseOnes N T = some r) : KI l D dA ad t1 t2 yX12_looseOnes cX12_looseOnes 3 .int { frames := 3, cells := 0, slots := 0, locals := 63 } [.ref (ad 52)] S T o r S T := by
  intro sz
  refine en_ (plainFor_of_name (by decide)) (Nat.le_of_ble_eq_true rfl) ?_
  intro p ev s m args below meth c QQ hQ hsz X hr hlk w ls hl
  have hx := X.1
  have hb := X.2.1
  have L4 : ∀ (n : Nat), ∀ (x1 : Int32) (x2 : Int32), fX12_looseOnes_l4 N n x1 x2 T = some r → WAT p l ev ({ frames := 3, cells := 0, slots := 0, locals := 63 } : Room) s m args below meth c QQ 3 D dA ad t1 t2 S T o 4 [(0, .ref (ad 52)), (1, .int x1), (2, .int x2)] [] := by
    intro n
    induction n with
    | zero =>
      intro x1 x2 hR
      exact nomatch hR
    | succ n ih =>
      intro x1 x2 hR H locs ls w hl
      rw [fX12_looseOnes_l4] at hR
      refine lv_iload_n hx hb dX12_looseOnes_4 rfl (lv_at hl 2 rfl) ?_
      refine lv_aload_n hx hb dX12_looseOnes_5 rfl (lv_at hl 0 rfl) ?_
      refine gX12_ends X w lfX12_245 dX12_looseOnes_6 ?_
      refine lv_icmp_ge (tgt := 36) hx hb dX12_looseOnes_9 (by decide) (fun c1 => ?_) (fun c1 => ?_)
      · rw [if_pos c1] at hR
        refine lv_iload_n hx hb dX12_looseOnes_36 rfl (lv_at hl 1 rfl) ?_
        rw [hQ]
        exact rt_i X hr hlk w hsz rfl rfl rfl (lf1 hR) dX12_looseOnes_37
      · rw [if_neg c1] at hR
        refine lv_iload_n hx hb dX12_looseOnes_12 rfl (lv_at hl 1 rfl) ?_
        refine lv_aload_n hx hb dX12_looseOnes_13 rfl (lv_at hl 0 rfl) ?_
        refine lv_iload_n hx hb dX12_looseOnes_14 rfl (lv_at hl 2 rfl) ?_
        obtain ⟨r3, h2, hR⟩ := bd_e hR
        refine cVi (k := 52) (As := [.int x2]) (rest := [.int x1]) X hl.1 w okX12_isLoose obX12 rfl lmX12_329 (kX12_isLoose h2) ⟨Nat.le_of_ble_eq_true rfl, Nat.le_of_ble_eq_true rfl⟩ ⟨rfl, rfl⟩ ⟨Nat.zero_le _, Nat.zero_le _⟩ rfl rfl (Nat.le_of_ble_eq_true rfl) dX12_looseOnes_15 (fun H locs zr3 w => ?_)
        refine lv_if_eq (tgt := 27) hx hb dX12_looseOnes_18 (by decide) (fun c4 => ?_) (fun c4 => ?_)
        · rw [if_pos c4] at hR
          refine lv_iconst (v := 0) hx hb dX12_looseOnes_27 (by decide) ?_
          refine lv_ior hx hb dX12_looseOnes_28 ?_
          obtain ⟨v5, ev5, hR⟩ := lt_e hR
          refine nm_i ev5 ?_
          refine lv_istore_n (lv' := [(1, .int v5), (0, .ref (ad 52)), (2, .int x2)]) hx hb dX12_looseOnes_29 rfl hl (by decide) rfl (fun ls hl => ?_)
          obtain ⟨v6, ev6, hR⟩ := lt_e hR
          refine lv_iinc (v := v6) (lv' := [(2, .int v6), (1, .int v5), (0, .ref (ad 52))]) hx hb dX12_looseOnes_30 hl (k := 2) rfl (by rw [ev6]; rfl) (by decide) rfl (fun ls hl => ?_)
          refine lv_goto (tgt := 4) hx hb dX12_looseOnes_33 (by decide) ?_
          exact ih v5 v6 hR _ _ _ w (lv_sub hl [2, 1, 0] rfl)
        · rw [if_neg c4] at hR
          refine lv_iconst (v := 1) hx hb dX12_looseOnes_21 (by decide) ?_
          refine lv_iload_n hx hb dX12_looseOnes_22 rfl (lv_at hl 2 rfl) ?_
          refine lv_ishl hx hb dX12_looseOnes_23 ?_
          refine lv_goto (tgt := 28) hx hb dX12_looseOnes_24 (by decide) ?_
          refine lv_ior hx hb dX12_looseOnes_28 ?_
          obtain ⟨v7, ev7, hR⟩ := lt_e hR
          refine nm_i ev7 ?_
          refine lv_istore_n (lv' := [(1, .int v7), (0, .ref (ad 52)), (2, .int x2)]) hx hb dX12_looseOnes_29 rfl hl (by decide) rfl (fun ls hl => ?_)
          obtain ⟨v8, ev8, hR⟩ := lt_e hR
          refine lv_iinc (v := v8) (lv' := [(2, .int v8), (1, .int v7), (0, .ref (ad 52))]) hx hb dX12_looseOnes_30 hl (k := 2) rfl (by rw [ev8]; rfl) (by decide) rfl (fun ls hl => ?_)
          refine lv_goto (tgt := 4) hx hb dX12_looseOnes_33 (by decide) ?_
          exact ih v7 v8 hR _ _ _ w (lv_sub hl [2, 1, 0] rfl)
  have hl : lv_has ls 3 [(0, .ref (ad 52))] := hl
  unfold fX12_looseOnes at hR
  refine lv_iconst (v := 0) hx hb dX12_looseOnes_0 (by decide) ?_
  refine lv_istore_n (lv' := [(1, .int 0), (0, .ref (ad 52))]) hx hb dX12_looseOnes_1 rfl hl (by decide) rfl (fun ls hl => ?_)
  refine lv_iconst (v := 0) hx hb dX12_looseOnes_2 (by decide) ?_
  refine lv_istore_n (lv' := [(2, .int 0), (1, .int 0), (0, .ref (ad 52))]) hx hb dX12_looseOnes_3 rfl hl (by decide) rfl (fun ls hl => ?_)
  exact L4 N 0 0 hR _ _ _ w (lv_sub hl [2, 1, 0] rfl)
/- LooseEndsModel.rack()I -/
def fX12_rack_l27 (N : Nat) (kc9 : Int32 → Int32 → Int32 → SS → Option (SS × Int32)) : Nat → Int32 → Int32 → Int32 → Int32 → Int32 → SS → Option (SS × Int32)
  | 0, _, _, _, _, _, _ => none
  | n + 1, x1, x2, x3, x4, x5, T => if (gi T 52 22) ≤ x5 then
  (if x4 = 0 then
  (lt (x2 ||| 0) fun v3 =>
  lt (x3 + 1) fun v4 =>
  kc9 x1 v3 v4 T)
  else
  (lt (x2 ||| (sl 1 x3)) fun v5 =>
  lt (x3 + 1) fun v6 =>
  kc9 x1 v5 v6 T))
  else
  (if x4 = 0 then
  (lt (x5 + 1) fun v8 =>
  fX12_rack_l27 N kc9 n x1 x2 x3 0 v8 T)
  else
  (if x5 = x3 then
  (lt (x5 + 1) fun v10 =>
  fX12_rack_l27 N kc9 n x1 x2 x3 1 v10 T)
  else
  (bd (fX12_has N x1 x5) fun r12 =>
  if r12 = 0 then
  (lt (x5 + 1) fun v14 =>
  fX12_rack_l27 N kc9 n x1 x2 x3 1 v14 T)
  else
  (b2 (fX12_goesWith N T x3 x5 1) fun T17 r16 =>
  if r16 = 0 then
  (b2 (fX12_goesWith N T17 x5 x3 1) fun T22 r21 =>
  if r21 = 0 then
  (lt (x5 + 1) fun v25 =>
  fX12_rack_l27 N kc9 n x1 x2 x3 1 v25 T22)
  else
  (lt (x5 + 1) fun v24 =>
  fX12_rack_l27 N kc9 n x1 x2 x3 0 v24 T22))
  else
  (lt (x5 + 1) fun v19 =>
  fX12_rack_l27 N kc9 n x1 x2 x3 0 v19 T17)))))
def fX12_rack_l9 (N : Nat) : Nat → Int32 → Int32 → Int32 → SS → Option (SS × Int32)
  | 0, _, _, _, _ => none
  | n + 1, x1, x2, x3, T => if (gi T 52 22) ≤ x3 then
  (some (T, x2))
  else
  (bd (fX12_has N x1 x3) fun r3 =>
  fX12_rack_l27 N (fX12_rack_l9 N n) N x1 x2 x3 r3 0 T)
def fX12_rack (N : Nat) (T : SS) : Option (SS × Int32) := bd (fX12_looseOnes N T) fun r2 =>
  fX12_rack_l9 N N r2 0 0 T
set_option maxHeartbeats 4000000 in
set_option maxRecDepth 100000 in
theorem kX12_rack {l : Launch} {D : va_G} {dA : Nat → ClassId} {ad : Nat → Nat} {t1 t2 : Nat} {N : Nat} {S T : SS} {o : Nat → Int64} {r : Int32} {T' : SS} (hR : fX12_rack N T = some (T', r)) : KI l D dA ad t1 t2 yX12_rack cX12_rack 6 .int { frames := 7, cells := 0, slots := 0, locals := 157 } [.ref (ad 52)] S T o r S T' := by
  intro sz
  refine en_ (plainFor_of_name (by decide)) (Nat.le_of_ble_eq_true rfl) ?_
  intro p ev s m args below meth c QQ hQ hsz X hr hlk w ls hl
  have hx := X.1
  have hb := X.2.1
  have L27 : ∀ (kc9 : Int32 → Int32 → Int32 → SS → Option (SS × Int32)) (_ : ∀ (x1 : Int32) (x2 : Int32) (x3 : Int32) (T : SS), kc9 x1 x2 x3 T = some (T', r) → WAT p l ev ({ frames := 7, cells := 0, slots := 0, locals := 157 } : Room) s m args below meth c QQ 6 D dA ad t1 t2 S T o 9 [(0, .ref (ad 52)), (1, .int x1), (2, .int x2), (3, .int x3)] []) (n : Nat), ∀ (x1 : Int32) (x2 : Int32) (x3 : Int32) (x4 : Int32) (x5 : Int32) (T : SS), fX12_rack_l27 N kc9 n x1 x2 x3 x4 x5 T = some (T', r) → WAT p l ev ({ frames := 7, cells := 0, slots := 0, locals := 157 } : Room) s m args below meth c QQ 6 D dA ad t1 t2 S T o 27 [(0, .ref (ad 52)), (1, .int x1), (2, .int x2), (3, .int x3), (4, .int x4), (5, .int x5)] [] := by
    intro kc9 hk9 n
    induction n with
    | zero =>
      intro x1 x2 x3 x4 x5 T hR
      exact nomatch hR
    | succ n ih =>
      intro x1 x2 x3 x4 x5 T hR H locs ls w hl
      rw [fX12_rack_l27] at hR
      refine lv_iload hx hb dX12_rack_27 (lv_at hl 5 rfl) ?_
      refine lv_aload_n hx hb dX12_rack_29 rfl (lv_at hl 0 rfl) ?_
      refine gX12_ends X w lfX12_245 dX12_rack_30 ?_
      refine lv_icmp_ge (tgt := 91) hx hb dX12_rack_33 (by decide) (fun c1 => ?_) (fun c1 => ?_)
      · rw [if_pos c1] at hR
        refine lv_iload_n hx hb dX12_rack_91 rfl (lv_at hl 2 rfl) ?_
        refine lv_iload hx hb dX12_rack_92 (lv_at hl 4 rfl) ?_
        refine lv_if_eq (tgt := 103) hx hb dX12_rack_94 (by decide) (fun c2 => ?_) (fun c2 => ?_)
        · rw [if_pos c2] at hR
          refine lv_iconst (v := 0) hx hb dX12_rack_103 (by decide) ?_
          refine lv_ior hx hb dX12_rack_104 ?_
          obtain ⟨v3, ev3, hR⟩ := lt_e hR
          refine nm_i ev3 ?_
          refine lv_istore_n (lv' := [(2, .int v3), (0, .ref (ad 52)), (1, .int x1), (3, .int x3), (4, .int x4), (5, .int x5)]) hx hb dX12_rack_105 rfl hl (by decide) rfl (fun ls hl => ?_)
          obtain ⟨v4, ev4, hR⟩ := lt_e hR
          refine lv_iinc (v := v4) (lv' := [(3, .int v4), (2, .int v3), (0, .ref (ad 52)), (1, .int x1), (4, .int x4), (5, .int x5)]) hx hb dX12_rack_106 hl (k := 3) rfl (by rw [ev4]; rfl) (by decide) rfl (fun ls hl => ?_)
          refine lv_goto (tgt := 9) hx hb dX12_rack_109 (by decide) ?_
          exact hk9 x1 v3 v4 T hR _ _ _ w (lv_sub hl [2, 3, 1, 0] rfl)
        · rw [if_neg c2] at hR
          refine lv_iconst (v := 1) hx hb dX12_rack_97 (by decide) ?_
          refine lv_iload_n hx hb dX12_rack_98 rfl (lv_at hl 3 rfl) ?_
          refine lv_ishl hx hb dX12_rack_99 ?_
          refine lv_goto (tgt := 104) hx hb dX12_rack_100 (by decide) ?_
          refine lv_ior hx hb dX12_rack_104 ?_
          obtain ⟨v5, ev5, hR⟩ := lt_e hR
          refine nm_i ev5 ?_
          refine lv_istore_n (lv' := [(2, .int v5), (0, .ref (ad 52)), (1, .int x1), (3, .int x3), (4, .int x4), (5, .int x5)]) hx hb dX12_rack_105 rfl hl (by decide) rfl (fun ls hl => ?_)
          obtain ⟨v6, ev6, hR⟩ := lt_e hR
          refine lv_iinc (v := v6) (lv' := [(3, .int v6), (2, .int v5), (0, .ref (ad 52)), (1, .int x1), (4, .int x4), (5, .int x5)]) hx hb dX12_rack_106 hl (k := 3) rfl (by rw [ev6]; rfl) (by decide) rfl (fun ls hl => ?_)
          refine lv_goto (tgt := 9) hx hb dX12_rack_109 (by decide) ?_
          exact hk9 x1 v5 v6 T hR _ _ _ w (lv_sub hl [2, 3, 1, 0] rfl)
      · rw [if_neg c1] at hR
        refine lv_iload hx hb dX12_rack_36 (lv_at hl 4 rfl) ?_
        refine lv_if_eq (tgt := 82) hx hb dX12_rack_38 (by decide) (fun c7 => ?_) (fun c7 => ?_)
        · rw [if_pos c7] at hR
          refine lv_iconst (v := 0) hx hb dX12_rack_82 (by decide) ?_
          refine lv_istore (lv' := [(4, .int 0), (0, .ref (ad 52)), (1, .int x1), (2, .int x2), (3, .int x3), (5, .int x5)]) hx hb dX12_rack_83 hl (by decide) rfl (fun ls hl => ?_)
          obtain ⟨v8, ev8, hR⟩ := lt_e hR
          refine lv_iinc (v := v8) (lv' := [(5, .int v8), (4, .int 0), (0, .ref (ad 52)), (1, .int x1), (2, .int x2), (3, .int x3)]) hx hb dX12_rack_85 hl (k := 5) rfl (by rw [ev8]; rfl) (by decide) rfl (fun ls hl => ?_)
          refine lv_goto (tgt := 27) hx hb dX12_rack_88 (by decide) ?_
          exact ih x1 x2 x3 0 v8 T hR _ _ _ w (lv_sub hl [2, 3, 4, 5, 1, 0] rfl)
        · rw [if_neg c7] at hR
          refine lv_iload hx hb dX12_rack_41 (lv_at hl 5 rfl) ?_
          refine lv_iload_n hx hb dX12_rack_43 rfl (lv_at hl 3 rfl) ?_
          refine lv_icmp_eq (tgt := 78) hx hb dX12_rack_44 (by decide) (fun c9 => ?_) (fun c9 => ?_)
          · rw [if_pos c9] at hR
            refine lv_iconst (v := 1) hx hb dX12_rack_78 (by decide) ?_
            refine lv_goto (tgt := 83) hx hb dX12_rack_79 (by decide) ?_
            refine lv_istore (lv' := [(4, .int 1), (0, .ref (ad 52)), (1, .int x1), (2, .int x2), (3, .int x3), (5, .int x5)]) hx hb dX12_rack_83 hl (by decide) rfl (fun ls hl => ?_)
            obtain ⟨v10, ev10, hR⟩ := lt_e hR
            refine lv_iinc (v := v10) (lv' := [(5, .int v10), (4, .int 1), (0, .ref (ad 52)), (1, .int x1), (2, .int x2), (3, .int x3)]) hx hb dX12_rack_85 hl (k := 5) rfl (by rw [ev10]; rfl) (by decide) rfl (fun ls hl => ?_)
            refine lv_goto (tgt := 27) hx hb dX12_rack_88 (by decide) ?_
            exact ih x1 x2 x3 1 v10 T hR _ _ _ w (lv_sub hl [2, 3, 4, 5, 1, 0] rfl)
          · rw [if_neg c9] at hR
            refine lv_iload_n hx hb dX12_rack_47 rfl (lv_at hl 1 rfl) ?_
            refine lv_iload hx hb dX12_rack_48 (lv_at hl 5 rfl) ?_
            obtain ⟨r12, h11, hR⟩ := bd_e hR
            refine cSi (As := [.int x1, .int x5]) (rest := []) X hl.1 w okX12_has lmX12_219 (kX12_has h11) ⟨Nat.le_of_ble_eq_true rfl, Nat.le_of_ble_eq_true rfl⟩ ⟨rfl, rfl⟩ ⟨Nat.zero_le _, Nat.zero_le _⟩ rfl rfl (Nat.le_of_ble_eq_true rfl) dX12_rack_50 (fun H locs zr12 w => ?_)
            refine lv_if_eq (tgt := 78) hx hb dX12_rack_53 (by decide) (fun c13 => ?_) (fun c13 => ?_)
            · rw [if_pos c13] at hR
              refine lv_iconst (v := 1) hx hb dX12_rack_78 (by decide) ?_
              refine lv_goto (tgt := 83) hx hb dX12_rack_79 (by decide) ?_
              refine lv_istore (lv' := [(4, .int 1), (0, .ref (ad 52)), (1, .int x1), (2, .int x2), (3, .int x3), (5, .int x5)]) hx hb dX12_rack_83 hl (by decide) rfl (fun ls hl => ?_)
              obtain ⟨v14, ev14, hR⟩ := lt_e hR
              refine lv_iinc (v := v14) (lv' := [(5, .int v14), (4, .int 1), (0, .ref (ad 52)), (1, .int x1), (2, .int x2), (3, .int x3)]) hx hb dX12_rack_85 hl (k := 5) rfl (by rw [ev14]; rfl) (by decide) rfl (fun ls hl => ?_)
              refine lv_goto (tgt := 27) hx hb dX12_rack_88 (by decide) ?_
              exact ih x1 x2 x3 1 v14 T hR _ _ _ w (lv_sub hl [2, 3, 4, 5, 1, 0] rfl)
            · rw [if_neg c13] at hR
              refine lv_aload_n hx hb dX12_rack_56 rfl (lv_at hl 0 rfl) ?_
              refine lv_iload_n hx hb dX12_rack_57 rfl (lv_at hl 3 rfl) ?_
              refine lv_iload hx hb dX12_rack_58 (lv_at hl 5 rfl) ?_
              refine lv_iconst (v := 1) hx hb dX12_rack_60 (by decide) ?_
              obtain ⟨T17, r16, h15, hR⟩ := b2_e hR
              refine cVi (k := 52) (As := [.int x3, .int x5, .int 1]) (rest := []) X hl.1 w okX12_goesWith obX12 rfl lmX12_289 (kX12_goesWith h15) ⟨Nat.le_of_ble_eq_true rfl, Nat.le_of_ble_eq_true rfl⟩ ⟨rfl, rfl⟩ ⟨Nat.zero_le _, Nat.zero_le _⟩ rfl rfl (Nat.le_of_ble_eq_true rfl) dX12_rack_61 (fun H locs zr16 w => ?_)
              refine lv_if_ne (tgt := 82) hx hb dX12_rack_64 (by decide) (fun c18 => ?_) (fun c18 => ?_)
              · rw [if_neg c18] at hR
                refine lv_iconst (v := 0) hx hb dX12_rack_82 (by decide) ?_
                refine lv_istore (lv' := [(4, .int 0), (0, .ref (ad 52)), (1, .int x1), (2, .int x2), (3, .int x3), (5, .int x5)]) hx hb dX12_rack_83 hl (by decide) rfl (fun ls hl => ?_)
                obtain ⟨v19, ev19, hR⟩ := lt_e hR
                refine lv_iinc (v := v19) (lv' := [(5, .int v19), (4, .int 0), (0, .ref (ad 52)), (1, .int x1), (2, .int x2), (3, .int x3)]) hx hb dX12_rack_85 hl (k := 5) rfl (by rw [ev19]; rfl) (by decide) rfl (fun ls hl => ?_)
                refine lv_goto (tgt := 27) hx hb dX12_rack_88 (by decide) ?_
                exact ih x1 x2 x3 0 v19 T17 hR _ _ _ w (lv_sub hl [2, 3, 4, 5, 1, 0] rfl)
              · rw [if_pos c18] at hR
                refine lv_aload_n hx hb dX12_rack_67 rfl (lv_at hl 0 rfl) ?_
                refine lv_iload hx hb dX12_rack_68 (lv_at hl 5 rfl) ?_
                refine lv_iload_n hx hb dX12_rack_70 rfl (lv_at hl 3 rfl) ?_
                refine lv_iconst (v := 1) hx hb dX12_rack_71 (by decide) ?_
                obtain ⟨T22, r21, h20, hR⟩ := b2_e hR
                refine cVi (k := 52) (As := [.int x5, .int x3, .int 1]) (rest := []) X hl.1 w okX12_goesWith obX12 rfl lmX12_289 (kX12_goesWith h20) ⟨Nat.le_of_ble_eq_true rfl, Nat.le_of_ble_eq_true rfl⟩ ⟨rfl, rfl⟩ ⟨Nat.zero_le _, Nat.zero_le _⟩ rfl rfl (Nat.le_of_ble_eq_true rfl) dX12_rack_72 (fun H locs zr21 w => ?_)
                refine lv_if_ne (tgt := 82) hx hb dX12_rack_75 (by decide) (fun c23 => ?_) (fun c23 => ?_)
                · rw [if_neg c23] at hR
                  refine lv_iconst (v := 0) hx hb dX12_rack_82 (by decide) ?_
                  refine lv_istore (lv' := [(4, .int 0), (0, .ref (ad 52)), (1, .int x1), (2, .int x2), (3, .int x3), (5, .int x5)]) hx hb dX12_rack_83 hl (by decide) rfl (fun ls hl => ?_)
                  obtain ⟨v24, ev24, hR⟩ := lt_e hR
                  refine lv_iinc (v := v24) (lv' := [(5, .int v24), (4, .int 0), (0, .ref (ad 52)), (1, .int x1), (2, .int x2), (3, .int x3)]) hx hb dX12_rack_85 hl (k := 5) rfl (by rw [ev24]; rfl) (by decide) rfl (fun ls hl => ?_)
                  refine lv_goto (tgt := 27) hx hb dX12_rack_88 (by decide) ?_
                  exact ih x1 x2 x3 0 v24 T22 hR _ _ _ w (lv_sub hl [2, 3, 4, 5, 1, 0] rfl)
                · rw [if_pos c23] at hR
                  refine lv_iconst (v := 1) hx hb dX12_rack_78 (by decide) ?_
                  refine lv_goto (tgt := 83) hx hb dX12_rack_79 (by decide) ?_
                  refine lv_istore (lv' := [(4, .int 1), (0, .ref (ad 52)), (1, .int x1), (2, .int x2), (3, .int x3), (5, .int x5)]) hx hb dX12_rack_83 hl (by decide) rfl (fun ls hl => ?_)
                  obtain ⟨v25, ev25, hR⟩ := lt_e hR
                  refine lv_iinc (v := v25) (lv' := [(5, .int v25), (4, .int 1), (0, .ref (ad 52)), (1, .int x1), (2, .int x2), (3, .int x3)]) hx hb dX12_rack_85 hl (k := 5) rfl (by rw [ev25]; rfl) (by decide) rfl (fun ls hl => ?_)
                  refine lv_goto (tgt := 27) hx hb dX12_rack_88 (by decide) ?_
                  exact ih x1 x2 x3 1 v25 T22 hR _ _ _ w (lv_sub hl [2, 3, 4, 5, 1, 0] rfl)
  have L9 : ∀ (n : Nat), ∀ (x1 : Int32) (x2 : Int32) (x3 : Int32) (T : SS), fX12_rack_l9 N n x1 x2 x3 T = some (T', r) → WAT p l ev ({ frames := 7, cells := 0, slots := 0, locals := 157 } : Room) s m args below meth c QQ 6 D dA ad t1 t2 S T o 9 [(0, .ref (ad 52)), (1, .int x1), (2, .int x2), (3, .int x3)] [] := by
    intro n
    induction n with
    | zero =>
      intro x1 x2 x3 T hR
      exact nomatch hR
    | succ n ih =>
      intro x1 x2 x3 T hR H locs ls w hl
      rw [fX12_rack_l9] at hR
      refine lv_iload_n hx hb dX12_rack_9 rfl (lv_at hl 3 rfl) ?_
      refine lv_aload_n hx hb dX12_rack_10 rfl (lv_at hl 0 rfl) ?_
      refine gX12_ends X w lfX12_245 dX12_rack_11 ?_
      refine lv_icmp_ge (tgt := 112) hx hb dX12_rack_14 (by decide) (fun c1 => ?_) (fun c1 => ?_)
      · rw [if_pos c1] at hR
        refine lv_iload_n hx hb dX12_rack_112 rfl (lv_at hl 2 rfl) ?_
        rw [hQ]
        exact rt_i X hr hlk w hsz rfl rfl (lf2 hR).1 (lf2 hR).2 dX12_rack_113
      · rw [if_neg c1] at hR
        refine lv_iload_n hx hb dX12_rack_17 rfl (lv_at hl 1 rfl) ?_
        refine lv_iload_n hx hb dX12_rack_18 rfl (lv_at hl 3 rfl) ?_
        obtain ⟨r3, h2, hR⟩ := bd_e hR
        refine cSi (As := [.int x1, .int x3]) (rest := []) X hl.1 w okX12_has lmX12_219 (kX12_has h2) ⟨Nat.le_of_ble_eq_true rfl, Nat.le_of_ble_eq_true rfl⟩ ⟨rfl, rfl⟩ ⟨Nat.zero_le _, Nat.zero_le _⟩ rfl rfl (Nat.le_of_ble_eq_true rfl) dX12_rack_19 (fun H locs zr3 w => ?_)
        refine lv_istore (lv' := [(4, .int r3), (0, .ref (ad 52)), (1, .int x1), (2, .int x2), (3, .int x3)]) hx hb dX12_rack_22 hl (by decide) rfl (fun ls hl => ?_)
        refine lv_iconst (v := 0) hx hb dX12_rack_24 (by decide) ?_
        refine lv_istore (lv' := [(5, .int 0), (4, .int r3), (0, .ref (ad 52)), (1, .int x1), (2, .int x2), (3, .int x3)]) hx hb dX12_rack_25 hl (by decide) rfl (fun ls hl => ?_)
        exact L27 _ ih N x1 x2 x3 r3 0 T hR _ _ _ w (lv_sub hl [2, 3, 4, 5, 1, 0] rfl)
  have hl : lv_has ls 6 [(0, .ref (ad 52))] := hl
  unfold fX12_rack at hR
  refine lv_aload_n hx hb dX12_rack_0 rfl (lv_at hl 0 rfl) ?_
  obtain ⟨r2, h1, hR⟩ := bd_e hR
  refine cVi (k := 52) (As := []) (rest := []) X hl.1 w okX12_looseOnes obX12 rfl lmX12_428 (kX12_looseOnes h1) ⟨Nat.le_of_ble_eq_true rfl, Nat.le_of_ble_eq_true rfl⟩ ⟨rfl, rfl⟩ ⟨Nat.zero_le _, Nat.zero_le _⟩ rfl rfl (Nat.le_of_ble_eq_true rfl) dX12_rack_1 (fun H locs zr2 w => ?_)
  refine lv_istore_n (lv' := [(1, .int r2), (0, .ref (ad 52))]) hx hb dX12_rack_4 rfl hl (by decide) rfl (fun ls hl => ?_)
  refine lv_iconst (v := 0) hx hb dX12_rack_5 (by decide) ?_
  refine lv_istore_n (lv' := [(2, .int 0), (1, .int r2), (0, .ref (ad 52))]) hx hb dX12_rack_6 rfl hl (by decide) rfl (fun ls hl => ?_)
  refine lv_iconst (v := 0) hx hb dX12_rack_7 (by decide) ?_
  refine lv_istore_n (lv' := [(3, .int 0), (2, .int 0), (1, .int r2), (0, .ref (ad 52))]) hx hb dX12_rack_8 rfl hl (by decide) rfl (fun ls hl => ?_)
  exact L9 N r2 0 0 T hR _ _ _ w (lv_sub hl [3, 2, 1, 0] rfl)
/- LooseEndsModel.isTale(I)Z -/
def fX12_isTale (N : Nat) (T : SS) (p1 : Int32) : Option (Int32) := bd (fX12_isSold N T p1) fun r2 =>
  if r2 = 0 then
  (ck (inb (21 + p1) 214) <|
  if (ga T 67 (21 + p1)) = (-1) then
  (ck (inb (14 + p1) 214) <|
  if (ga T 67 (14 + p1)) = (-1) then
  (some 0)
  else
  (some 1))
  else
  (some 0))
  else
  (some 0)
set_option maxHeartbeats 4000000 in
set_option maxRecDepth 100000 in
theorem kX12_isTale {l : Launch} {D : va_G} {dA : Nat → ClassId} {ad : Nat → Nat} {t1 t2 : Nat} {N : Nat} {S T : SS} {o : Nat → Int64} {p1 : Int32} {r : Int32} (hR : fX12_isTale N T p1 = some r) : KI l D dA ad t1 t2 yX12_isTale cX12_isTale 2 .boolean { frames := 2, cells := 0, slots := 0, locals := 42 } [.ref (ad 52), .int p1] S T o r S T := by
  intro sz
  refine en_ (plainFor_of_name (by decide)) (Nat.le_of_ble_eq_true rfl) ?_
  intro p ev s m args below meth c QQ hQ hsz X hr hlk w ls hl
  have hx := X.1
  have hb := X.2.1
  have hl : lv_has ls 2 [(0, .ref (ad 52)), (1, .int p1)] := hl
  unfold fX12_isTale at hR
  refine lv_aload_n hx hb dX12_isTale_0 rfl (lv_at hl 0 rfl) ?_
  refine lv_iload_n hx hb dX12_isTale_1 rfl (lv_at hl 1 rfl) ?_
  obtain ⟨r2, h1, hR⟩ := bd_e hR
  refine cVi (k := 52) (As := [.int p1]) (rest := []) X hl.1 w okX12_isSold obX12 rfl lmX12_267 (kX12_isSold h1) ⟨Nat.le_of_ble_eq_true rfl, Nat.le_of_ble_eq_true rfl⟩ ⟨rfl, rfl⟩ ⟨Nat.zero_le _, Nat.zero_le _⟩ rfl rfl (Nat.le_of_ble_eq_true rfl) dX12_isTale_2 (fun H locs zr2 w => ?_)
  refine lv_if_ne (tgt := 38) hx hb dX12_isTale_5 (by decide) (fun c3 => ?_) (fun c3 => ?_)
  · rw [if_neg c3] at hR
    refine lv_iconst (v := 0) hx hb dX12_isTale_38 (by decide) ?_
    rw [hQ]
    exact rt_i X hr hlk w hsz rfl rfl rfl (lf1 hR) dX12_isTale_39
  · rw [if_pos c3] at hR
    refine lv_aload_n hx hb dX12_isTale_8 rfl (lv_at hl 0 rfl) ?_
    refine gX12_now X w lfX12_52 dX12_isTale_9 ?_
    refine lv_bipush (v := 21) hx hb dX12_isTale_12 (by decide) ?_
    refine lv_iload_n hx hb dX12_isTale_14 rfl (lv_at hl 1 rfl) ?_
    refine lv_iadd hx hb dX12_isTale_15 ?_
    obtain ⟨g4, hR⟩ := ck_e hR
    refine ialT (n := 214) rfl (by decide) X w rfl g4 dX12_isTale_16 ?_
    refine lv_iconst (v := -1) hx hb dX12_isTale_17 (by decide) ?_
    refine lv_icmp_ne (tgt := 38) hx hb dX12_isTale_18 (by decide) (fun c5 => ?_) (fun c5 => ?_)
    · rw [if_neg c5] at hR
      refine lv_iconst (v := 0) hx hb dX12_isTale_38 (by decide) ?_
      rw [hQ]
      exact rt_i X hr hlk w hsz rfl rfl rfl (lf1 hR) dX12_isTale_39
    · rw [if_pos c5] at hR
      refine lv_aload_n hx hb dX12_isTale_21 rfl (lv_at hl 0 rfl) ?_
      refine gX12_now X w lfX12_52 dX12_isTale_22 ?_
      refine lv_bipush (v := 14) hx hb dX12_isTale_25 (by decide) ?_
      refine lv_iload_n hx hb dX12_isTale_27 rfl (lv_at hl 1 rfl) ?_
      refine lv_iadd hx hb dX12_isTale_28 ?_
      obtain ⟨g6, hR⟩ := ck_e hR
      refine ialT (n := 214) rfl (by decide) X w rfl g6 dX12_isTale_29 ?_
      refine lv_iconst (v := -1) hx hb dX12_isTale_30 (by decide) ?_
      refine lv_icmp_eq (tgt := 38) hx hb dX12_isTale_31 (by decide) (fun c7 => ?_) (fun c7 => ?_)
      · rw [if_pos c7] at hR
        refine lv_iconst (v := 0) hx hb dX12_isTale_38 (by decide) ?_
        rw [hQ]
        exact rt_i X hr hlk w hsz rfl rfl rfl (lf1 hR) dX12_isTale_39
      · rw [if_neg c7] at hR
        refine lv_iconst (v := 1) hx hb dX12_isTale_34 (by decide) ?_
        refine lv_goto (tgt := 39) hx hb dX12_isTale_35 (by decide) ?_
        rw [hQ]
        exact rt_i X hr hlk w hsz rfl rfl rfl (lf1 hR) dX12_isTale_39
/- LooseEndsModel.tales()I -/
def fX12_tales_l4 (N : Nat) : Nat → Int32 → Int32 → SS → Option (Int32)
  | 0, _, _, _ => none
  | n + 1, x1, x2, T => if (gi T 52 22) ≤ x2 then
  (some x1)
  else
  (bd (fX12_isTale N T x2) fun r3 =>
  if r3 = 0 then
  (lt (x1 + 0) fun v5 =>
  lt (x2 + 1) fun v6 =>
  fX12_tales_l4 N n v5 v6 T)
  else
  (lt (x1 + 1) fun v7 =>
  lt (x2 + 1) fun v8 =>
  fX12_tales_l4 N n v7 v8 T))
def fX12_tales (N : Nat) (T : SS) : Option (Int32) := fX12_tales_l4 N N 0 0 T
set_option maxHeartbeats 4000000 in
set_option maxRecDepth 100000 in
theorem kX12_tales {l : Launch} {D : va_G} {dA : Nat → ClassId} {ad : Nat → Nat} {t1 t2 : Nat} {N : Nat} {S T : SS} {o : Nat → Int64} {r : Int32} (hR : fX12_tales N T = some r) : KI l D dA ad t1 t2 yX12_tales cX12_tales 3 .int { frames := 3, cells := 0, slots := 0, locals := 63 } [.ref (ad 52)] S T o r S T := by
  intro sz
  refine en_ (plainFor_of_name (by decide)) (Nat.le_of_ble_eq_true rfl) ?_
  intro p ev s m args below meth c QQ hQ hsz X hr hlk w ls hl
  have hx := X.1
  have hb := X.2.1
  have L4 : ∀ (n : Nat), ∀ (x1 : Int32) (x2 : Int32), fX12_tales_l4 N n x1 x2 T = some r → WAT p l ev ({ frames := 3, cells := 0, slots := 0, locals := 63 } : Room) s m args below meth c QQ 3 D dA ad t1 t2 S T o 4 [(0, .ref (ad 52)), (1, .int x1), (2, .int x2)] [] := by
    intro n
    induction n with
    | zero =>
      intro x1 x2 hR
      exact nomatch hR
    | succ n ih =>
      intro x1 x2 hR H locs ls w hl
      rw [fX12_tales_l4] at hR
      refine lv_iload_n hx hb dX12_tales_4 rfl (lv_at hl 2 rfl) ?_
      refine lv_aload_n hx hb dX12_tales_5 rfl (lv_at hl 0 rfl) ?_
      refine gX12_ends X w lfX12_245 dX12_tales_6 ?_
      refine lv_icmp_ge (tgt := 34) hx hb dX12_tales_9 (by decide) (fun c1 => ?_) (fun c1 => ?_)
      · rw [if_pos c1] at hR
        refine lv_iload_n hx hb dX12_tales_34 rfl (lv_at hl 1 rfl) ?_
        rw [hQ]
        exact rt_i X hr hlk w hsz rfl rfl rfl (lf1 hR) dX12_tales_35
      · rw [if_neg c1] at hR
        refine lv_iload_n hx hb dX12_tales_12 rfl (lv_at hl 1 rfl) ?_
        refine lv_aload_n hx hb dX12_tales_13 rfl (lv_at hl 0 rfl) ?_
        refine lv_iload_n hx hb dX12_tales_14 rfl (lv_at hl 2 rfl) ?_
        obtain ⟨r3, h2, hR⟩ := bd_e hR
        refine cVi (k := 52) (As := [.int x2]) (rest := [.int x1]) X hl.1 w okX12_isTale obX12 rfl lmX12_431 (kX12_isTale h2) ⟨Nat.le_of_ble_eq_true rfl, Nat.le_of_ble_eq_true rfl⟩ ⟨rfl, rfl⟩ ⟨Nat.zero_le _, Nat.zero_le _⟩ rfl rfl (Nat.le_of_ble_eq_true rfl) dX12_tales_15 (fun H locs zr3 w => ?_)
        refine lv_if_eq (tgt := 25) hx hb dX12_tales_18 (by decide) (fun c4 => ?_) (fun c4 => ?_)
        · rw [if_pos c4] at hR
          refine lv_iconst (v := 0) hx hb dX12_tales_25 (by decide) ?_
          refine lv_iadd hx hb dX12_tales_26 ?_
          obtain ⟨v5, ev5, hR⟩ := lt_e hR
          refine nm_i ev5 ?_
          refine lv_istore_n (lv' := [(1, .int v5), (0, .ref (ad 52)), (2, .int x2)]) hx hb dX12_tales_27 rfl hl (by decide) rfl (fun ls hl => ?_)
          obtain ⟨v6, ev6, hR⟩ := lt_e hR
          refine lv_iinc (v := v6) (lv' := [(2, .int v6), (1, .int v5), (0, .ref (ad 52))]) hx hb dX12_tales_28 hl (k := 2) rfl (by rw [ev6]; rfl) (by decide) rfl (fun ls hl => ?_)
          refine lv_goto (tgt := 4) hx hb dX12_tales_31 (by decide) ?_
          exact ih v5 v6 hR _ _ _ w (lv_sub hl [2, 1, 0] rfl)
        · rw [if_neg c4] at hR
          refine lv_iconst (v := 1) hx hb dX12_tales_21 (by decide) ?_
          refine lv_goto (tgt := 26) hx hb dX12_tales_22 (by decide) ?_
          refine lv_iadd hx hb dX12_tales_26 ?_
          obtain ⟨v7, ev7, hR⟩ := lt_e hR
          refine nm_i ev7 ?_
          refine lv_istore_n (lv' := [(1, .int v7), (0, .ref (ad 52)), (2, .int x2)]) hx hb dX12_tales_27 rfl hl (by decide) rfl (fun ls hl => ?_)
          obtain ⟨v8, ev8, hR⟩ := lt_e hR
          refine lv_iinc (v := v8) (lv' := [(2, .int v8), (1, .int v7), (0, .ref (ad 52))]) hx hb dX12_tales_28 hl (k := 2) rfl (by rw [ev8]; rfl) (by decide) rfl (fun ls hl => ?_)
          refine lv_goto (tgt := 4) hx hb dX12_tales_31 (by decide) ?_
          exact ih v7 v8 hR _ _ _ w (lv_sub hl [2, 1, 0] rfl)
  have hl : lv_has ls 3 [(0, .ref (ad 52))] := hl
  unfold fX12_tales at hR
  refine lv_iconst (v := 0) hx hb dX12_tales_0 (by decide) ?_
  refine lv_istore_n (lv' := [(1, .int 0), (0, .ref (ad 52))]) hx hb dX12_tales_1 rfl hl (by decide) rfl (fun ls hl => ?_)
  refine lv_iconst (v := 0) hx hb dX12_tales_2 (by decide) ?_
  refine lv_istore_n (lv' := [(2, .int 0), (1, .int 0), (0, .ref (ad 52))]) hx hb dX12_tales_3 rfl hl (by decide) rfl (fun ls hl => ?_)
  exact L4 N 0 0 hR _ _ _ w (lv_sub hl [2, 1, 0] rfl)
/- LooseEndsModel.worthOfAll()I -/
def fX12_worthOfAll_l4 (N : Nat) : Nat → Int32 → Int32 → SS → Option (Int32)
  | 0, _, _, _ => none
  | n + 1, x1, x2, T => if (gi T 52 22) ≤ x2 then
  (some x1)
  else
  (bd (fX12_isTale N T x2) fun r3 =>
  if r3 = 0 then
  (lt (x1 + 0) fun v5 =>
  lt (x2 + 1) fun v6 =>
  fX12_worthOfAll_l4 N n v5 v6 T)
  else
  (bd (fX12_worthOfTale N T x2) fun r8 =>
  lt (x1 + r8) fun v9 =>
  lt (x2 + 1) fun v10 =>
  fX12_worthOfAll_l4 N n v9 v10 T))
def fX12_worthOfAll (N : Nat) (T : SS) : Option (Int32) := fX12_worthOfAll_l4 N N 0 0 T
set_option maxHeartbeats 4000000 in
set_option maxRecDepth 100000 in
theorem kX12_worthOfAll {l : Launch} {D : va_G} {dA : Nat → ClassId} {ad : Nat → Nat} {t1 t2 : Nat} {N : Nat} {S T : SS} {o : Nat → Int64} {r : Int32} (hR : fX12_worthOfAll N T = some r) : KI l D dA ad t1 t2 yX12_worthOfAll cX12_worthOfAll 3 .int { frames := 3, cells := 0, slots := 0, locals := 66 } [.ref (ad 52)] S T o r S T := by
  intro sz
  refine en_ (plainFor_of_name (by decide)) (Nat.le_of_ble_eq_true rfl) ?_
  intro p ev s m args below meth c QQ hQ hsz X hr hlk w ls hl
  have hx := X.1
  have hb := X.2.1
  have L4 : ∀ (n : Nat), ∀ (x1 : Int32) (x2 : Int32), fX12_worthOfAll_l4 N n x1 x2 T = some r → WAT p l ev ({ frames := 3, cells := 0, slots := 0, locals := 66 } : Room) s m args below meth c QQ 3 D dA ad t1 t2 S T o 4 [(0, .ref (ad 52)), (1, .int x1), (2, .int x2)] [] := by
    intro n
    induction n with
    | zero =>
      intro x1 x2 hR
      exact nomatch hR
    | succ n ih =>
      intro x1 x2 hR H locs ls w hl
      rw [fX12_worthOfAll_l4] at hR
      refine lv_iload_n hx hb dX12_worthOfAll_4 rfl (lv_at hl 2 rfl) ?_
      refine lv_aload_n hx hb dX12_worthOfAll_5 rfl (lv_at hl 0 rfl) ?_
      refine gX12_ends X w lfX12_245 dX12_worthOfAll_6 ?_
      refine lv_icmp_ge (tgt := 38) hx hb dX12_worthOfAll_9 (by decide) (fun c1 => ?_) (fun c1 => ?_)
      · rw [if_pos c1] at hR
        refine lv_iload_n hx hb dX12_worthOfAll_38 rfl (lv_at hl 1 rfl) ?_
        rw [hQ]
        exact rt_i X hr hlk w hsz rfl rfl rfl (lf1 hR) dX12_worthOfAll_39
      · rw [if_neg c1] at hR
        refine lv_iload_n hx hb dX12_worthOfAll_12 rfl (lv_at hl 1 rfl) ?_
        refine lv_aload_n hx hb dX12_worthOfAll_13 rfl (lv_at hl 0 rfl) ?_
        refine lv_iload_n hx hb dX12_worthOfAll_14 rfl (lv_at hl 2 rfl) ?_
        obtain ⟨r3, h2, hR⟩ := bd_e hR
        refine cVi (k := 52) (As := [.int x2]) (rest := [.int x1]) X hl.1 w okX12_isTale obX12 rfl lmX12_431 (kX12_isTale h2) ⟨Nat.le_of_ble_eq_true rfl, Nat.le_of_ble_eq_true rfl⟩ ⟨rfl, rfl⟩ ⟨Nat.zero_le _, Nat.zero_le _⟩ rfl rfl (Nat.le_of_ble_eq_true rfl) dX12_worthOfAll_15 (fun H locs zr3 w => ?_)
        refine lv_if_eq (tgt := 29) hx hb dX12_worthOfAll_18 (by decide) (fun c4 => ?_) (fun c4 => ?_)
        · rw [if_pos c4] at hR
          refine lv_iconst (v := 0) hx hb dX12_worthOfAll_29 (by decide) ?_
          refine lv_iadd hx hb dX12_worthOfAll_30 ?_
          obtain ⟨v5, ev5, hR⟩ := lt_e hR
          refine nm_i ev5 ?_
          refine lv_istore_n (lv' := [(1, .int v5), (0, .ref (ad 52)), (2, .int x2)]) hx hb dX12_worthOfAll_31 rfl hl (by decide) rfl (fun ls hl => ?_)
          obtain ⟨v6, ev6, hR⟩ := lt_e hR
          refine lv_iinc (v := v6) (lv' := [(2, .int v6), (1, .int v5), (0, .ref (ad 52))]) hx hb dX12_worthOfAll_32 hl (k := 2) rfl (by rw [ev6]; rfl) (by decide) rfl (fun ls hl => ?_)
          refine lv_goto (tgt := 4) hx hb dX12_worthOfAll_35 (by decide) ?_
          exact ih v5 v6 hR _ _ _ w (lv_sub hl [2, 1, 0] rfl)
        · rw [if_neg c4] at hR
          refine lv_aload_n hx hb dX12_worthOfAll_21 rfl (lv_at hl 0 rfl) ?_
          refine lv_iload_n hx hb dX12_worthOfAll_22 rfl (lv_at hl 2 rfl) ?_
          obtain ⟨r8, h7, hR⟩ := bd_e hR
          refine cVi (k := 52) (As := [.int x2]) (rest := [.int x1]) X hl.1 w okX12_worthOfTale obX12 rfl lmX12_324 (kX12_worthOfTale h7) ⟨Nat.le_of_ble_eq_true rfl, Nat.le_of_ble_eq_true rfl⟩ ⟨rfl, rfl⟩ ⟨Nat.zero_le _, Nat.zero_le _⟩ rfl rfl (Nat.le_of_ble_eq_true rfl) dX12_worthOfAll_23 (fun H locs zr8 w => ?_)
          refine lv_goto (tgt := 30) hx hb dX12_worthOfAll_26 (by decide) ?_
          refine lv_iadd hx hb dX12_worthOfAll_30 ?_
          obtain ⟨v9, ev9, hR⟩ := lt_e hR
          refine nm_i ev9 ?_
          refine lv_istore_n (lv' := [(1, .int v9), (0, .ref (ad 52)), (2, .int x2)]) hx hb dX12_worthOfAll_31 rfl hl (by decide) rfl (fun ls hl => ?_)
          obtain ⟨v10, ev10, hR⟩ := lt_e hR
          refine lv_iinc (v := v10) (lv' := [(2, .int v10), (1, .int v9), (0, .ref (ad 52))]) hx hb dX12_worthOfAll_32 hl (k := 2) rfl (by rw [ev10]; rfl) (by decide) rfl (fun ls hl => ?_)
          refine lv_goto (tgt := 4) hx hb dX12_worthOfAll_35 (by decide) ?_
          exact ih v9 v10 hR _ _ _ w (lv_sub hl [2, 1, 0] rfl)
  have hl : lv_has ls 3 [(0, .ref (ad 52))] := hl
  unfold fX12_worthOfAll at hR
  refine lv_iconst (v := 0) hx hb dX12_worthOfAll_0 (by decide) ?_
  refine lv_istore_n (lv' := [(1, .int 0), (0, .ref (ad 52))]) hx hb dX12_worthOfAll_1 rfl hl (by decide) rfl (fun ls hl => ?_)
  refine lv_iconst (v := 0) hx hb dX12_worthOfAll_2 (by decide) ?_
  refine lv_istore_n (lv' := [(2, .int 0), (1, .int 0), (0, .ref (ad 52))]) hx hb dX12_worthOfAll_3 rfl hl (by decide) rfl (fun ls hl => ?_)
  exact L4 N 0 0 hR _ _ _ w (lv_sub hl [2, 1, 0] rfl)
/- LooseEndsModel.most(I)I -/
def fX12_most (N : Nat) (T : SS) (p1 : Int32) : Option (SS × Int32) := if (gi T 52 22) = 0 then
  (some (T, (-1)))
  else
  (bd (fX12_in N p1 0 7) fun r3 =>
  if r3 = 0 then
  (some (T, (-1)))
  else
  (if p1 = 3 then
  (bd (fX12_looseOnes N T) fun r7 =>
  some (T, r7))
  else
  (if p1 = 4 then
  (some (T, ga T 67 28))
  else
  (if p1 = 5 then
  (b2 (fX12_rack N T) fun T10 r9 =>
  some (T10, r9))
  else
  (if p1 = 6 then
  (bd (fX12_tales N T) fun r12 =>
  some (T, r12))
  else
  (if p1 = 7 then
  (bd (fX12_worthOfAll N T) fun r14 =>
  some (T, r14))
  else
  (bd (fX12_topBy N T p1) fun r16 =>
  some (T, r16))))))))
set_option maxHeartbeats 4000000 in
set_option maxRecDepth 100000 in
theorem kX12_most {l : Launch} {D : va_G} {dA : Nat → ClassId} {ad : Nat → Nat} {t1 t2 : Nat} {N : Nat} {S T : SS} {o : Nat → Int64} {p1 : Int32} {r : Int32} {T' : SS} (hR : fX12_most N T p1 = some (T', r)) : KI l D dA ad t1 t2 yX12_most cX12_most 2 .int { frames := 8, cells := 0, slots := 0, locals := 182 } [.ref (ad 52), .int p1] S T o r S T' := by
  intro sz
  refine en_ (plainFor_of_name (by decide)) (Nat.le_of_ble_eq_true rfl) ?_
  intro p ev s m args below meth c QQ hQ hsz X hr hlk w ls hl
  have hx := X.1
  have hb := X.2.1
  have hl : lv_has ls 2 [(0, .ref (ad 52)), (1, .int p1)] := hl
  unfold fX12_most at hR
  refine lv_aload_n hx hb dX12_most_0 rfl (lv_at hl 0 rfl) ?_
  refine gX12_ends X w lfX12_245 dX12_most_1 ?_
  refine lv_if_eq (tgt := 17) hx hb dX12_most_4 (by decide) (fun c1 => ?_) (fun c1 => ?_)
  · rw [if_pos c1] at hR
    refine lv_iconst (v := -1) hx hb dX12_most_17 (by decide) ?_
    rw [hQ]
    exact rt_i X hr hlk w hsz rfl rfl (lf2 hR).1 (lf2 hR).2 dX12_most_18
  · rw [if_neg c1] at hR
    refine lv_iload_n hx hb dX12_most_7 rfl (lv_at hl 1 rfl) ?_
    refine lv_iconst (v := 0) hx hb dX12_most_8 (by decide) ?_
    refine lv_bipush (v := 7) hx hb dX12_most_9 (by decide) ?_
    obtain ⟨r3, h2, hR⟩ := bd_e hR
    refine cSi (As := [.int p1, .int 0, .int 7]) (rest := []) X hl.1 w okX12_in lmX12_208 (kX12_in h2) ⟨Nat.le_of_ble_eq_true rfl, Nat.le_of_ble_eq_true rfl⟩ ⟨rfl, rfl⟩ ⟨Nat.zero_le _, Nat.zero_le _⟩ rfl rfl (Nat.le_of_ble_eq_true rfl) dX12_most_11 (fun H locs zr3 w => ?_)
    refine lv_if_ne (tgt := 19) hx hb dX12_most_14 (by decide) (fun c4 => ?_) (fun c4 => ?_)
    · rw [if_neg c4] at hR
      refine lv_iload_n hx hb dX12_most_19 rfl (lv_at hl 1 rfl) ?_
      by_cases c5_0 : p1 = 3
      · rw [if_pos c5_0] at hR
        refine lv_tableIn (tgt := 56) hx hb dX12_most_20 (by rw [c5_0]; decide) (by rw [c5_0]; decide) (by rw [c5_0]; rfl) (by decide) ?_
        refine lv_aload_n hx hb dX12_most_56 rfl (lv_at hl 0 rfl) ?_
        obtain ⟨r7, h6, hR⟩ := bd_e hR
        refine cVi (k := 52) (As := []) (rest := []) X hl.1 w okX12_looseOnes obX12 rfl lmX12_428 (kX12_looseOnes h6) ⟨Nat.le_of_ble_eq_true rfl, Nat.le_of_ble_eq_true rfl⟩ ⟨rfl, rfl⟩ ⟨Nat.zero_le _, Nat.zero_le _⟩ rfl rfl (Nat.le_of_ble_eq_true rfl) dX12_most_57 (fun H locs zr7 w => ?_)
        rw [hQ]
        exact rt_i X hr hlk w hsz rfl rfl (lf2 hR).1 (lf2 hR).2 dX12_most_60
      · rw [if_neg c5_0] at hR
        by_cases c5_1 : p1 = 4
        · rw [if_pos c5_1] at hR
          refine lv_tableIn (tgt := 61) hx hb dX12_most_20 (by rw [c5_1]; decide) (by rw [c5_1]; decide) (by rw [c5_1]; rfl) (by decide) ?_
          refine lv_aload_n hx hb dX12_most_61 rfl (lv_at hl 0 rfl) ?_
          refine gX12_now X w lfX12_52 dX12_most_62 ?_
          refine lv_bipush (v := 28) hx hb dX12_most_65 (by decide) ?_
          refine ialT (n := 214) rfl (by decide) X w rfl (by decide) dX12_most_67 ?_
          rw [hQ]
          exact rt_i X hr hlk w hsz rfl rfl (lf2 hR).1 (lf2 hR).2 dX12_most_68
        · rw [if_neg c5_1] at hR
          by_cases c5_2 : p1 = 5
          · rw [if_pos c5_2] at hR
            refine lv_tableIn (tgt := 69) hx hb dX12_most_20 (by rw [c5_2]; decide) (by rw [c5_2]; decide) (by rw [c5_2]; rfl) (by decide) ?_
            refine lv_aload_n hx hb dX12_most_69 rfl (lv_at hl 0 rfl) ?_
            obtain ⟨T10, r9, h8, hR⟩ := b2_e hR
            refine cVi (k := 52) (As := []) (rest := []) X hl.1 w okX12_rack obX12 rfl lmX12_434 (kX12_rack h8) ⟨Nat.le_of_ble_eq_true rfl, Nat.le_of_ble_eq_true rfl⟩ ⟨rfl, rfl⟩ ⟨Nat.zero_le _, Nat.zero_le _⟩ rfl rfl (Nat.le_of_ble_eq_true rfl) dX12_most_70 (fun H locs zr9 w => ?_)
            rw [hQ]
            exact rt_i X hr hlk w hsz rfl rfl (lf2 hR).1 (lf2 hR).2 dX12_most_73
          · rw [if_neg c5_2] at hR
            by_cases c5_3 : p1 = 6
            · rw [if_pos c5_3] at hR
              refine lv_tableIn (tgt := 74) hx hb dX12_most_20 (by rw [c5_3]; decide) (by rw [c5_3]; decide) (by rw [c5_3]; rfl) (by decide) ?_
              refine lv_aload_n hx hb dX12_most_74 rfl (lv_at hl 0 rfl) ?_
              obtain ⟨r12, h11, hR⟩ := bd_e hR
              refine cVi (k := 52) (As := []) (rest := []) X hl.1 w okX12_tales obX12 rfl lmX12_437 (kX12_tales h11) ⟨Nat.le_of_ble_eq_true rfl, Nat.le_of_ble_eq_true rfl⟩ ⟨rfl, rfl⟩ ⟨Nat.zero_le _, Nat.zero_le _⟩ rfl rfl (Nat.le_of_ble_eq_true rfl) dX12_most_75 (fun H locs zr12 w => ?_)
              rw [hQ]
              exact rt_i X hr hlk w hsz rfl rfl (lf2 hR).1 (lf2 hR).2 dX12_most_78
            · rw [if_neg c5_3] at hR
              by_cases c5_4 : p1 = 7
              · rw [if_pos c5_4] at hR
                refine lv_tableIn (tgt := 79) hx hb dX12_most_20 (by rw [c5_4]; decide) (by rw [c5_4]; decide) (by rw [c5_4]; rfl) (by decide) ?_
                refine lv_aload_n hx hb dX12_most_79 rfl (lv_at hl 0 rfl) ?_
                obtain ⟨r14, h13, hR⟩ := bd_e hR
                refine cVi (k := 52) (As := []) (rest := []) X hl.1 w okX12_worthOfAll obX12 rfl lmX12_440 (kX12_worthOfAll h13) ⟨Nat.le_of_ble_eq_true rfl, Nat.le_of_ble_eq_true rfl⟩ ⟨rfl, rfl⟩ ⟨Nat.zero_le _, Nat.zero_le _⟩ rfl rfl (Nat.le_of_ble_eq_true rfl) dX12_most_80 (fun H locs zr14 w => ?_)
                rw [hQ]
                exact rt_i X hr hlk w hsz rfl rfl (lf2 hR).1 (lf2 hR).2 dX12_most_83
              · rw [if_neg c5_4] at hR
                have hh0 := ne_int (n := 3) (by decide) c5_0
                have hh1 := ne_int (n := 4) (by decide) c5_1
                have hh2 := ne_int (n := 5) (by decide) c5_2
                have hh3 := ne_int (n := 6) (by decide) c5_3
                have hh4 := ne_int (n := 7) (by decide) c5_4
                refine lv_tableOut (tgt := 84) hx hb dX12_most_20 (by omega) (by decide) ?_
                refine lv_aload_n hx hb dX12_most_84 rfl (lv_at hl 0 rfl) ?_
                refine lv_iload_n hx hb dX12_most_85 rfl (lv_at hl 1 rfl) ?_
                obtain ⟨r16, h15, hR⟩ := bd_e hR
                refine cVi (k := 52) (As := [.int p1]) (rest := []) X hl.1 w okX12_topBy obX12 rfl lmX12_443 (kX12_topBy h15) ⟨Nat.le_of_ble_eq_true rfl, Nat.le_of_ble_eq_true rfl⟩ ⟨rfl, rfl⟩ ⟨Nat.zero_le _, Nat.zero_le _⟩ rfl rfl (Nat.le_of_ble_eq_true rfl) dX12_most_86 (fun H locs zr16 w => ?_)
                rw [hQ]
                exact rt_i X hr hlk w hsz rfl rfl (lf2 hR).1 (lf2 hR).2 dX12_most_89
    · rw [if_pos c4] at hR
      refine lv_iconst (v := -1) hx hb dX12_most_17 (by decide) ?_
      rw [hQ]
      exact rt_i X hr hlk w hsz rfl rfl (lf2 hR).1 (lf2 hR).2 dX12_most_18
/- LooseEndsModel.image()I -/
def fX12_image_l11 (N : Nat) : Nat → Int32 → SS → Option (SS × Int32)
  | 0, _, _ => none
  | n + 1, x1, T => if 214 ≤ x1 then
  (lt (pj T 52 44 1) fun T2 =>
  some (T2, ga T2 67 32))
  else
  (ck (inb x1 214) <|
  ck (inb x1 214) <|
  lt (pa T 77 x1 (ga T 67 x1)) fun T5 =>
  lt (x1 + 1) fun v6 =>
  fX12_image_l11 N n v6 T5)
def fX12_image (N : Nat) (T : SS) : Option (SS × Int32) := if (gi T 52 22) = 0 then
  (some (T, (-1)))
  else
  (fX12_image_l11 N N 0 T)
set_option maxHeartbeats 4000000 in
set_option maxRecDepth 100000 in
theorem kX12_image {l : Launch} {D : va_G} {dA : Nat → ClassId} {ad : Nat → Nat} {t1 t2 : Nat} {N : Nat} {S T : SS} {o : Nat → Int64} {r : Int32} {T' : SS} (hR : fX12_image N T = some (T', r)) : KI l D dA ad t1 t2 yX12_image cX12_image 2 .int { frames := 0, cells := 0, slots := 0, locals := 0 } [.ref (ad 52)] S T o r S T' := by
  intro sz
  refine en_ (plainFor_of_name (by decide)) (Nat.le_of_ble_eq_true rfl) ?_
  intro p ev s m args below meth c QQ hQ hsz X hr hlk w ls hl
  have hx := X.1
  have hb := X.2.1
  have L11 : ∀ (n : Nat), ∀ (x1 : Int32) (T : SS), fX12_image_l11 N n x1 T = some (T', r) → WAT p l ev ({ frames := 0, cells := 0, slots := 0, locals := 0 } : Room) s m args below meth c QQ 2 D dA ad t1 t2 S T o 11 [(0, .ref (ad 52)), (1, .int x1)] [] := by
    intro n
    induction n with
    | zero =>
      intro x1 T hR
      exact nomatch hR
    | succ n ih =>
      intro x1 T hR H locs ls w hl
      rw [fX12_image_l11] at hR
      refine lv_iload_n hx hb dX12_image_11 rfl (lv_at hl 1 rfl) ?_
      refine lv_sipush (v := 214) hx hb dX12_image_12 (by decide) ?_
      refine lv_icmp_ge (tgt := 36) hx hb dX12_image_15 (by decide) (fun c1 => ?_) (fun c1 => ?_)
      · rw [if_pos c1] at hR
        refine lv_aload_n hx hb dX12_image_36 rfl (lv_at hl 0 rfl) ?_
        refine lv_iconst (v := 1) hx hb dX12_image_37 (by decide) ?_
        obtain ⟨T2, eT2, hR⟩ := lt_e hR
        refine pX12_hasImage ⟨rfl, rfl⟩ X w lfX12_257 dX12_image_38 (fun H locs w => ?_)
        rw [← eT2] at w
        refine lv_aload_n hx hb dX12_image_41 rfl (lv_at hl 0 rfl) ?_
        refine gX12_now X w lfX12_52 dX12_image_42 ?_
        refine lv_bipush (v := 32) hx hb dX12_image_45 (by decide) ?_
        refine ialT (n := 214) rfl (by decide) X w rfl (by decide) dX12_image_47 ?_
        rw [hQ]
        exact rt_i X hr hlk w hsz rfl rfl (lf2 hR).1 (lf2 hR).2 dX12_image_48
      · rw [if_neg c1] at hR
        refine lv_aload_n hx hb dX12_image_18 rfl (lv_at hl 0 rfl) ?_
        refine gX12_image X w lfX12_90 dX12_image_19 ?_
        refine lv_iload_n hx hb dX12_image_22 rfl (lv_at hl 1 rfl) ?_
        refine lv_aload_n hx hb dX12_image_23 rfl (lv_at hl 0 rfl) ?_
        refine gX12_now X w lfX12_52 dX12_image_24 ?_
        refine lv_iload_n hx hb dX12_image_27 rfl (lv_at hl 1 rfl) ?_
        obtain ⟨g3, hR⟩ := ck_e hR
        refine ialT (n := 214) rfl (by decide) X w rfl g3 dX12_image_28 ?_
        obtain ⟨g4, hR⟩ := ck_e hR
        obtain ⟨T5, eT5, hR⟩ := lt_e hR
        refine iasT (n := 214) rfl (by decide) X w rfl g4 dX12_image_29 (fun H locs w => ?_)
        rw [← eT5] at w
        obtain ⟨v6, ev6, hR⟩ := lt_e hR
        refine lv_iinc (v := v6) (lv' := [(1, .int v6), (0, .ref (ad 52))]) hx hb dX12_image_30 hl (k := 1) rfl (by rw [ev6]; rfl) (by decide) rfl (fun ls hl => ?_)
        refine lv_goto (tgt := 11) hx hb dX12_image_33 (by decide) ?_
        exact ih v6 T5 hR _ _ _ w (lv_sub hl [1, 0] rfl)
  have hl : lv_has ls 2 [(0, .ref (ad 52))] := hl
  unfold fX12_image at hR
  refine lv_aload_n hx hb dX12_image_0 rfl (lv_at hl 0 rfl) ?_
  refine gX12_ends X w lfX12_245 dX12_image_1 ?_
  refine lv_if_ne (tgt := 9) hx hb dX12_image_4 (by decide) (fun c1 => ?_) (fun c1 => ?_)
  · rw [if_neg c1] at hR
    refine lv_iconst (v := 0) hx hb dX12_image_9 (by decide) ?_
    refine lv_istore_n (lv' := [(1, .int 0), (0, .ref (ad 52))]) hx hb dX12_image_10 rfl hl (by decide) rfl (fun ls hl => ?_)
    exact L11 N 0 T hR _ _ _ w (lv_sub hl [1, 0] rfl)
  · rw [if_pos c1] at hR
    refine lv_iconst (v := -1) hx hb dX12_image_7 (by decide) ?_
    rw [hQ]
    exact rt_i X hr hlk w hsz rfl rfl (lf2 hR).1 (lf2 hR).2 dX12_image_8
/- LooseEndsModel.back()I -/
def fX12_back_l11 (N : Nat) : Nat → Int32 → SS → Option (SS × Int32)
  | 0, _, _ => none
  | n + 1, x1, T => if 214 ≤ x1 then
  (lt (pj T 52 28 0) fun T2 =>
  some (T2, ga T2 67 32))
  else
  (ck (inb x1 214) <|
  ck (inb x1 214) <|
  lt (pa T 67 x1 (ga T 77 x1)) fun T5 =>
  lt (x1 + 1) fun v6 =>
  fX12_back_l11 N n v6 T5)
def fX12_back (N : Nat) (T : SS) : Option (SS × Int32) := if (gi T 52 44) = 0 then
  (some (T, (-1)))
  else
  (fX12_back_l11 N N 0 T)
set_option maxHeartbeats 4000000 in
set_option maxRecDepth 100000 in
theorem kX12_back {l : Launch} {D : va_G} {dA : Nat → ClassId} {ad : Nat → Nat} {t1 t2 : Nat} {N : Nat} {S T : SS} {o : Nat → Int64} {r : Int32} {T' : SS} (hR : fX12_back N T = some (T', r)) : KI l D dA ad t1 t2 yX12_back cX12_back 2 .int { frames := 0, cells := 0, slots := 0, locals := 0 } [.ref (ad 52)] S T o r S T' := by
  intro sz
  refine en_ (plainFor_of_name (by decide)) (Nat.le_of_ble_eq_true rfl) ?_
  intro p ev s m args below meth c QQ hQ hsz X hr hlk w ls hl
  have hx := X.1
  have hb := X.2.1
  have L11 : ∀ (n : Nat), ∀ (x1 : Int32) (T : SS), fX12_back_l11 N n x1 T = some (T', r) → WAT p l ev ({ frames := 0, cells := 0, slots := 0, locals := 0 } : Room) s m args below meth c QQ 2 D dA ad t1 t2 S T o 11 [(0, .ref (ad 52)), (1, .int x1)] [] := by
    intro n
    induction n with
    | zero =>
      intro x1 T hR
      exact nomatch hR
    | succ n ih =>
      intro x1 T hR H locs ls w hl
      rw [fX12_back_l11] at hR
      refine lv_iload_n hx hb dX12_back_11 rfl (lv_at hl 1 rfl) ?_
      refine lv_sipush (v := 214) hx hb dX12_back_12 (by decide) ?_
      refine lv_icmp_ge (tgt := 36) hx hb dX12_back_15 (by decide) (fun c1 => ?_) (fun c1 => ?_)
      · rw [if_pos c1] at hR
        refine lv_aload_n hx hb dX12_back_36 rfl (lv_at hl 0 rfl) ?_
        refine lv_iconst (v := 0) hx hb dX12_back_37 (by decide) ?_
        obtain ⟨T2, eT2, hR⟩ := lt_e hR
        refine pX12_acts X w lfX12_254 dX12_back_38 (fun H locs w => ?_)
        rw [← eT2] at w
        refine lv_aload_n hx hb dX12_back_41 rfl (lv_at hl 0 rfl) ?_
        refine gX12_now X w lfX12_52 dX12_back_42 ?_
        refine lv_bipush (v := 32) hx hb dX12_back_45 (by decide) ?_
        refine ialT (n := 214) rfl (by decide) X w rfl (by decide) dX12_back_47 ?_
        rw [hQ]
        exact rt_i X hr hlk w hsz rfl rfl (lf2 hR).1 (lf2 hR).2 dX12_back_48
      · rw [if_neg c1] at hR
        refine lv_aload_n hx hb dX12_back_18 rfl (lv_at hl 0 rfl) ?_
        refine gX12_now X w lfX12_52 dX12_back_19 ?_
        refine lv_iload_n hx hb dX12_back_22 rfl (lv_at hl 1 rfl) ?_
        refine lv_aload_n hx hb dX12_back_23 rfl (lv_at hl 0 rfl) ?_
        refine gX12_image X w lfX12_90 dX12_back_24 ?_
        refine lv_iload_n hx hb dX12_back_27 rfl (lv_at hl 1 rfl) ?_
        obtain ⟨g3, hR⟩ := ck_e hR
        refine ialT (n := 214) rfl (by decide) X w rfl g3 dX12_back_28 ?_
        obtain ⟨g4, hR⟩ := ck_e hR
        obtain ⟨T5, eT5, hR⟩ := lt_e hR
        refine iasT (n := 214) rfl (by decide) X w rfl g4 dX12_back_29 (fun H locs w => ?_)
        rw [← eT5] at w
        obtain ⟨v6, ev6, hR⟩ := lt_e hR
        refine lv_iinc (v := v6) (lv' := [(1, .int v6), (0, .ref (ad 52))]) hx hb dX12_back_30 hl (k := 1) rfl (by rw [ev6]; rfl) (by decide) rfl (fun ls hl => ?_)
        refine lv_goto (tgt := 11) hx hb dX12_back_33 (by decide) ?_
        exact ih v6 T5 hR _ _ _ w (lv_sub hl [1, 0] rfl)
  have hl : lv_has ls 2 [(0, .ref (ad 52))] := hl
  unfold fX12_back at hR
  refine lv_aload_n hx hb dX12_back_0 rfl (lv_at hl 0 rfl) ?_
  refine gX12_hasImage X w lfX12_257 dX12_back_1 ?_
  refine lv_if_ne (tgt := 9) hx hb dX12_back_4 (by decide) (fun c1 => ?_) (fun c1 => ?_)
  · rw [if_neg c1] at hR
    refine lv_iconst (v := 0) hx hb dX12_back_9 (by decide) ?_
    refine lv_istore_n (lv' := [(1, .int 0), (0, .ref (ad 52))]) hx hb dX12_back_10 rfl hl (by decide) rfl (fun ls hl => ?_)
    exact L11 N 0 T hR _ _ _ w (lv_sub hl [1, 0] rfl)
  · rw [if_pos c1] at hR
    refine lv_iconst (v := -1) hx hb dX12_back_7 (by decide) ?_
    rw [hQ]
    exact rt_i X hr hlk w hsz rfl rfl (lf2 hR).1 (lf2 hR).2 dX12_back_8
/- LooseEndsModel.count(I)I -/
def fX12_count (N : Nat) (T : SS) (p1 : Int32) : Option (Int32) := if p1 = 0 then
  (some (gi T 52 22))
  else
  (if p1 = 1 then
  (some (gi T 52 13))
  else
  (if p1 = 2 then
  (some (gi T 52 2))
  else
  (if p1 = 3 then
  (some (gi T 52 25))
  else
  (if p1 = 4 then
  (some (ga T 67 32))
  else
  (if p1 = 5 then
  (some (ga T 67 29))
  else
  (if p1 = 6 then
  (some (gi T 52 26))
  else
  (if p1 = 7 then
  (some (gi T 52 42))
  else
  (if p1 = 8 then
  (some (ga T 67 33))
  else
  (if p1 = 9 then
  (some (gi T 52 28))
  else
  (some (-1000000)))))))))))
set_option maxHeartbeats 4000000 in
set_option maxRecDepth 100000 in
theorem kX12_count {l : Launch} {D : va_G} {dA : Nat → ClassId} {ad : Nat → Nat} {t1 t2 : Nat} {N : Nat} {S T : SS} {o : Nat → Int64} {p1 : Int32} {r : Int32} (hR : fX12_count N T p1 = some r) : KI l D dA ad t1 t2 yX12_count cX12_count 2 .int { frames := 0, cells := 0, slots := 0, locals := 0 } [.ref (ad 52), .int p1] S T o r S T := by
  intro sz
  refine en_ (plainFor_of_name (by decide)) (Nat.le_of_ble_eq_true rfl) ?_
  intro p ev s m args below meth c QQ hQ hsz X hr hlk w ls hl
  have hx := X.1
  have hb := X.2.1
  have hl : lv_has ls 2 [(0, .ref (ad 52)), (1, .int p1)] := hl
  unfold fX12_count at hR
  refine lv_iload_n hx hb dX12_count_0 rfl (lv_at hl 1 rfl) ?_
  by_cases c1_0 : p1 = 0
  · rw [if_pos c1_0] at hR
    refine lv_tableIn (tgt := 56) hx hb dX12_count_1 (by rw [c1_0]; decide) (by rw [c1_0]; decide) (by rw [c1_0]; rfl) (by decide) ?_
    refine lv_aload_n hx hb dX12_count_56 rfl (lv_at hl 0 rfl) ?_
    refine gX12_ends X w lfX12_245 dX12_count_57 ?_
    rw [hQ]
    exact rt_i X hr hlk w hsz rfl rfl rfl (lf1 hR) dX12_count_60
  · rw [if_neg c1_0] at hR
    by_cases c1_1 : p1 = 1
    · rw [if_pos c1_1] at hR
      refine lv_tableIn (tgt := 61) hx hb dX12_count_1 (by rw [c1_1]; decide) (by rw [c1_1]; decide) (by rw [c1_1]; rfl) (by decide) ?_
      refine lv_aload_n hx hb dX12_count_61 rfl (lv_at hl 0 rfl) ?_
      refine gX12_laws X w lfX12_264 dX12_count_62 ?_
      rw [hQ]
      exact rt_i X hr hlk w hsz rfl rfl rfl (lf1 hR) dX12_count_65
    · rw [if_neg c1_1] at hR
      by_cases c1_2 : p1 = 2
      · rw [if_pos c1_2] at hR
        refine lv_tableIn (tgt := 66) hx hb dX12_count_1 (by rw [c1_2]; decide) (by rw [c1_2]; decide) (by rw [c1_2]; rfl) (by decide) ?_
        refine lv_aload_n hx hb dX12_count_66 rfl (lv_at hl 0 rfl) ?_
        refine gX12_size X w lfX12_100 dX12_count_67 ?_
        rw [hQ]
        exact rt_i X hr hlk w hsz rfl rfl rfl (lf1 hR) dX12_count_70
      · rw [if_neg c1_2] at hR
        by_cases c1_3 : p1 = 3
        · rw [if_pos c1_3] at hR
          refine lv_tableIn (tgt := 71) hx hb dX12_count_1 (by rw [c1_3]; decide) (by rw [c1_3]; decide) (by rw [c1_3]; rfl) (by decide) ?_
          refine lv_aload_n hx hb dX12_count_71 rfl (lv_at hl 0 rfl) ?_
          refine gX12_holding X w lfX12_58 dX12_count_72 ?_
          rw [hQ]
          exact rt_i X hr hlk w hsz rfl rfl rfl (lf1 hR) dX12_count_75
        · rw [if_neg c1_3] at hR
          by_cases c1_4 : p1 = 4
          · rw [if_pos c1_4] at hR
            refine lv_tableIn (tgt := 76) hx hb dX12_count_1 (by rw [c1_4]; decide) (by rw [c1_4]; decide) (by rw [c1_4]; rfl) (by decide) ?_
            refine lv_aload_n hx hb dX12_count_76 rfl (lv_at hl 0 rfl) ?_
            refine gX12_now X w lfX12_52 dX12_count_77 ?_
            refine lv_bipush (v := 32) hx hb dX12_count_80 (by decide) ?_
            refine ialT (n := 214) rfl (by decide) X w rfl (by decide) dX12_count_82 ?_
            rw [hQ]
            exact rt_i X hr hlk w hsz rfl rfl rfl (lf1 hR) dX12_count_83
          · rw [if_neg c1_4] at hR
            by_cases c1_5 : p1 = 5
            · rw [if_pos c1_5] at hR
              refine lv_tableIn (tgt := 84) hx hb dX12_count_1 (by rw [c1_5]; decide) (by rw [c1_5]; decide) (by rw [c1_5]; rfl) (by decide) ?_
              refine lv_aload_n hx hb dX12_count_84 rfl (lv_at hl 0 rfl) ?_
              refine gX12_now X w lfX12_52 dX12_count_85 ?_
              refine lv_bipush (v := 29) hx hb dX12_count_88 (by decide) ?_
              refine ialT (n := 214) rfl (by decide) X w rfl (by decide) dX12_count_90 ?_
              rw [hQ]
              exact rt_i X hr hlk w hsz rfl rfl rfl (lf1 hR) dX12_count_91
            · rw [if_neg c1_5] at hR
              by_cases c1_6 : p1 = 6
              · rw [if_pos c1_6] at hR
                refine lv_tableIn (tgt := 92) hx hb dX12_count_1 (by rw [c1_6]; decide) (by rw [c1_6]; decide) (by rw [c1_6]; rfl) (by decide) ?_
                refine lv_aload_n hx hb dX12_count_92 rfl (lv_at hl 0 rfl) ?_
                refine gX12_waked X w lfX12_62 dX12_count_93 ?_
                rw [hQ]
                exact rt_i X hr hlk w hsz rfl rfl rfl (lf1 hR) dX12_count_96
              · rw [if_neg c1_6] at hR
                by_cases c1_7 : p1 = 7
                · rw [if_pos c1_7] at hR
                  refine lv_tableIn (tgt := 97) hx hb dX12_count_1 (by rw [c1_7]; decide) (by rw [c1_7]; decide) (by rw [c1_7]; rfl) (by decide) ?_
                  refine lv_aload_n hx hb dX12_count_97 rfl (lv_at hl 0 rfl) ?_
                  refine gX12_noted X w lfX12_251 dX12_count_98 ?_
                  rw [hQ]
                  exact rt_i X hr hlk w hsz rfl rfl rfl (lf1 hR) dX12_count_101
                · rw [if_neg c1_7] at hR
                  by_cases c1_8 : p1 = 8
                  · rw [if_pos c1_8] at hR
                    refine lv_tableIn (tgt := 102) hx hb dX12_count_1 (by rw [c1_8]; decide) (by rw [c1_8]; decide) (by rw [c1_8]; rfl) (by decide) ?_
                    refine lv_aload_n hx hb dX12_count_102 rfl (lv_at hl 0 rfl) ?_
                    refine gX12_now X w lfX12_52 dX12_count_103 ?_
                    refine lv_bipush (v := 33) hx hb dX12_count_106 (by decide) ?_
                    refine ialT (n := 214) rfl (by decide) X w rfl (by decide) dX12_count_108 ?_
                    rw [hQ]
                    exact rt_i X hr hlk w hsz rfl rfl rfl (lf1 hR) dX12_count_109
                  · rw [if_neg c1_8] at hR
                    by_cases c1_9 : p1 = 9
                    · rw [if_pos c1_9] at hR
                      refine lv_tableIn (tgt := 110) hx hb dX12_count_1 (by rw [c1_9]; decide) (by rw [c1_9]; decide) (by rw [c1_9]; rfl) (by decide) ?_
                      refine lv_aload_n hx hb dX12_count_110 rfl (lv_at hl 0 rfl) ?_
                      refine gX12_acts X w lfX12_254 dX12_count_111 ?_
                      rw [hQ]
                      exact rt_i X hr hlk w hsz rfl rfl rfl (lf1 hR) dX12_count_114
                    · rw [if_neg c1_9] at hR
                      have hh0 := ne_int (n := 0) (by decide) c1_0
                      have hh1 := ne_int (n := 1) (by decide) c1_1
                      have hh2 := ne_int (n := 2) (by decide) c1_2
                      have hh3 := ne_int (n := 3) (by decide) c1_3
                      have hh4 := ne_int (n := 4) (by decide) c1_4
                      have hh5 := ne_int (n := 5) (by decide) c1_5
                      have hh6 := ne_int (n := 6) (by decide) c1_6
                      have hh7 := ne_int (n := 7) (by decide) c1_7
                      have hh8 := ne_int (n := 8) (by decide) c1_8
                      have hh9 := ne_int (n := 9) (by decide) c1_9
                      refine lv_tableOut (tgt := 115) hx hb dX12_count_1 (by omega) (by decide) ?_
                      refine lv_ldcw X.1 X.2.1 X.2.2.2.1 (X.2.2.2.2 _ lcX12_407) dX12_count_115 ?_
                      rw [hQ]
                      exact rt_i X hr hlk w hsz rfl rfl rfl (lf1 hR) dX12_count_118
