section BL
variable {S : Nat × (Nat → Int32)} {I : zI} {J : zJ} {k : zK}
/-! 3: EditionGrid.metric -/
theorem B3_0 {l1 : Int32} {l2 : Int32} {v1 : Int32} {I2 : zI} {J3 : zJ} (hb : Nat.ble k.1 (mBu 3).1 = true ∧ Nat.ble k.2 (mBu 3).2 = true) (hq : zq S 19 [.int l1] I J (some (.int v1)) I2 J3) : zd S 3 0 [some (.ref 0), some (.int l1), some (.int l2)] [] I J k = zd S 3 4 [some (.ref 0), some (.int l1), some (.int l2)] [.int v1] I2 J3 k := by
  refine (tt_f rfl).trans ?_
  refine (tt_il rfl).trans ?_
  exact tt_cs (vs := [.int l1]) rfl hb.1 hb.2 rfl rfl rfl rfl hq
theorem B3_4 {l1 : Int32} {l2 : Int32} {t0 : Int32}  : zd S 3 4 [some (.ref 0), some (.int l1), some (.int l2)] [.int t0] I J k = if t0 = 0 then zd S 3 18 [some (.ref 0), some (.int l1), some (.int l2)] [] I J k else zd S 3 7 [some (.ref 0), some (.int l1), some (.int l2)] [] I J k := by
  refine (tt_f rfl).trans ?_
  exact tt_f1 (p := fun x => x = 0) inferInstance rfl
theorem B3_7 {l1 : Int32} {l2 : Int32}  : zd S 3 7 [some (.ref 0), some (.int l1), some (.int l2)] [] I J k = if l2 < 1 then zd S 3 18 [some (.ref 0), some (.int l1), some (.int l2)] [] I J k else zd S 3 12 [some (.ref 0), some (.int l1), some (.int l2)] [] I J k := by
  refine (tt_f rfl).trans ?_
  refine (tt_il rfl).trans ?_
  refine (tt_f rfl).trans ?_
  refine tt_c.trans ?_
  refine (tt_f rfl).trans ?_
  exact tt_f2 (p := fun x y => x < y) inferInstance rfl
theorem B3_12 {l1 : Int32} {l2 : Int32}  : zd S 3 12 [some (.ref 0), some (.int l1), some (.int l2)] [] I J k = if l2 ≤ 9 then zd S 3 20 [some (.ref 0), some (.int l1), some (.int l2)] [] I J k else zd S 3 18 [some (.ref 0), some (.int l1), some (.int l2)] [] I J k := by
  refine (tt_f rfl).trans ?_
  refine (tt_il rfl).trans ?_
  refine (tt_f rfl).trans ?_
  refine tt_c.trans ?_
  refine (tt_f rfl).trans ?_
  exact tt_f2 (p := fun x y => x ≤ y) inferInstance rfl
theorem B3_18 {l1 : Int32} {l2 : Int32} (hz : zrt 2 (.int 0) = true) : zd S 3 18 [some (.ref 0), some (.int l1), some (.int l2)] [] I J k = some ((some (.int 0)), mk I J, k) := by
  refine (tt_fk rfl rfl).trans ?_
  refine tt_c.trans ?_
  exact tt_r1 rfl hz
theorem B3_20 {l1 : Int32} {l2 : Int32} (hi1 : zin (l1 - 97) 26 = true) : zd S 3 20 [some (.ref 0), some (.int l1), some (.int l2)] [] I J k = zd S 3 30 [some (.ref 0), some (.int l1), some (.int l2)] [] (u2 I 1 (l1 - 97).toNatClampNeg l2) J k := by
  refine (tt_f rfl).trans ?_
  refine (tt_al rfl).trans ?_
  refine (tt_f rfl).trans ?_
  refine (tt_gr rfl rfl).trans ?_
  refine (tt_f rfl).trans ?_
  refine (tt_il rfl).trans ?_
  refine (tt_f rfl).trans ?_
  refine tt_c.trans ?_
  refine (tt_f rfl).trans ?_
  refine tt_bi.trans ?_
  refine (tt_f rfl).trans ?_
  refine (tt_il rfl).trans ?_
  refine (tt_f rfl).trans ?_
  exact tt_pa rfl rfl hi1
theorem B3_30 {l1 : Int32} {l2 : Int32} (hz : zrt 2 (.int 1) = true) : zd S 3 30 [some (.ref 0), some (.int l1), some (.int l2)] [] I J k = some ((some (.int 1)), mk I J, k) := by
  refine (tt_f rfl).trans ?_
  refine tt_c.trans ?_
  exact tt_r1 rfl hz
/-! 4: EditionGrid.pattern -/
theorem B4_0 {l1 : Int64} {l3 : Int32} {l4 : Int64} {v1 : Int32} {I2 : zI} {J3 : zJ} (hb : Nat.ble k.1 (mBu 4).1 = true ∧ Nat.ble k.2 (mBu 4).2 = true) (hq : zq S 52 [.ref 56, .long l1, .int l3, .long l4] I J (some (.int v1)) I2 J3) : zd S 4 0 [some (.ref 0), some (.long l1), none, some (.int l3), some (.long l4), none] [] I J k = zd S 4 14 [some (.ref 0), some (.long l1), none, some (.int l3), some (.long l4), none] [.int v1] I2 J3 k := by
  refine (tt_f rfl).trans ?_
  refine (tt_al rfl).trans ?_
  refine (tt_f rfl).trans ?_
  refine (tt_gr rfl rfl).trans ?_
  refine (tt_f rfl).trans ?_
  refine (tt_gr rfl rfl).trans ?_
  refine (tt_f rfl).trans ?_
  refine (tt_ll rfl).trans ?_
  refine (tt_f rfl).trans ?_
  refine (tt_il rfl).trans ?_
  refine (tt_f rfl).trans ?_
  refine (tt_ll rfl).trans ?_
  exact tt_cv (As := [.long l1, .int l3, .long l4]) rfl hb.1 hb.2 rfl rfl rfl rfl rfl hq
theorem B4_14 {l1 : Int64} {l3 : Int32} {l4 : Int64} {t0 : Int32}  : zd S 4 14 [some (.ref 0), some (.long l1), none, some (.int l3), some (.long l4), none] [.int t0] I J k = some ((some (.int t0)), mk I J, k) := by
  exact tt_r1 rfl rfl
/-! 5: EditionGrid.cuts -/
theorem B5_0 {l1 : Int64} {l3 : Int32}  : zd S 5 0 [some (.ref 0), some (.long l1), none, some (.int l3), none, none] [] I J k = if l3 < 1 then zd S 5 11 [some (.ref 0), some (.long l1), none, some (.int l3), none, none] [] I J k else zd S 5 5 [some (.ref 0), some (.long l1), none, some (.int l3), none, none] [] I J k := by
  refine (tt_f rfl).trans ?_
  refine (tt_il rfl).trans ?_
  refine (tt_f rfl).trans ?_
  refine tt_c.trans ?_
  refine (tt_f rfl).trans ?_
  exact tt_f2 (p := fun x y => x < y) inferInstance rfl
theorem B5_5 {l1 : Int64} {l3 : Int32}  : zd S 5 5 [some (.ref 0), some (.long l1), none, some (.int l3), none, none] [] I J k = if l3 ≤ 8 then zd S 5 13 [some (.ref 0), some (.long l1), none, some (.int l3), none, none] [] I J k else zd S 5 11 [some (.ref 0), some (.long l1), none, some (.int l3), none, none] [] I J k := by
  refine (tt_f rfl).trans ?_
  refine (tt_il rfl).trans ?_
  refine (tt_f rfl).trans ?_
  refine tt_c.trans ?_
  refine (tt_f rfl).trans ?_
  exact tt_f2 (p := fun x y => x ≤ y) inferInstance rfl
theorem B5_11 {l1 : Int64} {l3 : Int32}  : zd S 5 11 [some (.ref 0), some (.long l1), none, some (.int l3), none, none] [] I J k = some ((some (.int (-1))), mk I J, k) := by
  refine (tt_fk rfl rfl).trans ?_
  refine tt_c.trans ?_
  exact tt_r1 rfl rfl
theorem B5_13 {l1 : Int64} {l3 : Int32}  : zd S 5 13 [some (.ref 0), some (.long l1), none, some (.int l3), none, none] [] I J k = zd S 5 16 [some (.ref 0), some (.long l1), none, some (.int l3), some (.int 0), none] [] I J k := by
  refine (tt_f rfl).trans ?_
  refine tt_c.trans ?_
  refine (tt_f rfl).trans ?_
  refine (tt_is rfl rfl).trans ?_
  rfl
theorem B5_16 {l1 : Int64} {l3 : Int32} {l4 : Int32} {o5 : Option Value}  : zd S 5 16 [some (.ref 0), some (.long l1), none, some (.int l3), some (.int l4), o5] [] I J k = if l3 ≤ l4 then zd S 5 57 [some (.ref 0), some (.long l1), none, some (.int l3), some (.int l4), none] [] I J k else zd S 5 22 [some (.ref 0), some (.long l1), none, some (.int l3), some (.int l4), none] [] I J k := by
  refine (tt_fk rfl rfl).trans ?_
  refine (tt_il rfl).trans ?_
  refine (tt_f rfl).trans ?_
  refine (tt_il rfl).trans ?_
  refine (tt_f rfl).trans ?_
  exact tt_f2 (p := fun x y => y ≤ x) inferInstance rfl
theorem B5_22 {l1 : Int64} {l3 : Int32} {l4 : Int32} {v1 : Int32} {I2 : zI} {J3 : zJ} (hb : Nat.ble k.1 (mBu 5).1 = true ∧ Nat.ble k.2 (mBu 5).2 = true) (hq : zq S 21 [.long l1, .int l3, .int l4] I J (some (.int v1)) I2 J3) : zd S 5 22 [some (.ref 0), some (.long l1), none, some (.int l3), some (.int l4), none] [] I J k = zd S 5 29 [some (.ref 0), some (.long l1), none, some (.int l3), some (.int l4), none] [.int v1] I2 J3 k := by
  refine (tt_f rfl).trans ?_
  refine (tt_ll rfl).trans ?_
  refine (tt_f rfl).trans ?_
  refine (tt_il rfl).trans ?_
  refine (tt_f rfl).trans ?_
  refine (tt_il rfl).trans ?_
  exact tt_cs (vs := [.long l1, .int l3, .int l4]) rfl hb.1 hb.2 rfl rfl rfl rfl hq
theorem B5_29 {l1 : Int64} {l3 : Int32} {l4 : Int32} {t0 : Int32} {v1 : Int32} {I2 : zI} {J3 : zJ} (hb : Nat.ble k.1 (mBu 5).1 = true ∧ Nat.ble k.2 (mBu 5).2 = true) (hq : zq S 19 [.int t0] I J (some (.int v1)) I2 J3) : zd S 5 29 [some (.ref 0), some (.long l1), none, some (.int l3), some (.int l4), none] [.int t0] I J k = zd S 5 36 [some (.ref 0), some (.long l1), none, some (.int l3), some (.int l4), some (.int t0)] [.int v1] I2 J3 k := by
  refine (tt_f rfl).trans ?_
  refine (tt_is rfl rfl).trans ?_
  refine (tt_f rfl).trans ?_
  refine (tt_il rfl).trans ?_
  exact tt_cs (vs := [.int t0]) rfl hb.1 hb.2 rfl rfl rfl rfl hq
theorem B5_36 {l1 : Int64} {l3 : Int32} {l4 : Int32} {l5 : Int32} {t0 : Int32}  : zd S 5 36 [some (.ref 0), some (.long l1), none, some (.int l3), some (.int l4), some (.int l5)] [.int t0] I J k = if ¬ t0 = 0 then zd S 5 41 [some (.ref 0), some (.long l1), none, some (.int l3), some (.int l4), some (.int l5)] [] I J k else zd S 5 39 [some (.ref 0), some (.long l1), none, some (.int l3), some (.int l4), some (.int l5)] [] I J k := by
  refine (tt_f rfl).trans ?_
  exact tt_f1 (p := fun x => ¬ x = 0) inferInstance rfl
theorem B5_39 {l1 : Int64} {l3 : Int32} {l4 : Int32} {l5 : Int32}  : zd S 5 39 [some (.ref 0), some (.long l1), none, some (.int l3), some (.int l4), some (.int l5)] [] I J k = some ((some (.int (-1))), mk I J, k) := by
  refine (tt_f rfl).trans ?_
  refine tt_c.trans ?_
  exact tt_r1 rfl rfl
theorem B5_41 {l1 : Int64} {l3 : Int32} {l4 : Int32} {l5 : Int32} (hi1 : zin l4 8 = true) : zd S 5 41 [some (.ref 0), some (.long l1), none, some (.int l3), some (.int l4), some (.int l5)] [] I J k = zd S 5 51 [some (.ref 0), some (.long l1), none, some (.int l3), some (.int l4), some (.int l5)] [] (u2 I 3 l4.toNatClampNeg (vp_nar .char ((l5).toUInt32 % 65536).toInt32)) J k := by
  refine (tt_f rfl).trans ?_
  refine (tt_al rfl).trans ?_
  refine (tt_f rfl).trans ?_
  refine (tt_gr rfl rfl).trans ?_
  refine (tt_f rfl).trans ?_
  refine (tt_il rfl).trans ?_
  refine (tt_f rfl).trans ?_
  refine (tt_il rfl).trans ?_
  refine (tt_f rfl).trans ?_
  refine tt_ui.trans ?_
  refine (tt_f rfl).trans ?_
  exact tt_pa rfl rfl hi1
theorem B5_51 {l1 : Int64} {l3 : Int32} {l4 : Int32} {l5 : Int32}  : zd S 5 51 [some (.ref 0), some (.long l1), none, some (.int l3), some (.int l4), some (.int l5)] [] I J k = zd S 5 16 [some (.ref 0), some (.long l1), none, some (.int l3), some (.int (l4 + 1)), some (.int l5)] [] I J k := by
  refine (tt_f rfl).trans ?_
  refine (tt_in rfl rfl).trans ?_
  refine (tt_f rfl).trans ?_
  refine tt_go.trans ?_
  rfl
theorem B5_57 {l1 : Int64} {l3 : Int32} {l4 : Int32} {v1 : Int32} {I2 : zI} {J3 : zJ} (hb : Nat.ble k.1 (mBu 5).1 = true ∧ Nat.ble k.2 (mBu 5).2 = true) (hq : zq S 53 [.ref 56, .ref 3, .int 0, .int l3] I J (some (.int v1)) I2 J3) : zd S 5 57 [some (.ref 0), some (.long l1), none, some (.int l3), some (.int l4), none] [] I J k = zd S 5 73 [some (.ref 0), some (.long l1), none, some (.int l3), some (.int l4), none] [.int v1] I2 J3 k := by
  refine (tt_f rfl).trans ?_
  refine (tt_al rfl).trans ?_
  refine (tt_f rfl).trans ?_
  refine (tt_gr rfl rfl).trans ?_
  refine (tt_f rfl).trans ?_
  refine (tt_gr rfl rfl).trans ?_
  refine (tt_f rfl).trans ?_
  refine (tt_al rfl).trans ?_
  refine (tt_f rfl).trans ?_
  refine (tt_gr rfl rfl).trans ?_
  refine (tt_f rfl).trans ?_
  refine tt_c.trans ?_
  refine (tt_f rfl).trans ?_
  refine (tt_il rfl).trans ?_
  exact tt_cv (As := [.ref 3, .int 0, .int l3]) rfl hb.1 hb.2 rfl rfl rfl rfl rfl hq
theorem B5_73 {l1 : Int64} {l3 : Int32} {l4 : Int32} {t0 : Int32}  : zd S 5 73 [some (.ref 0), some (.long l1), none, some (.int l3), some (.int l4), none] [.int t0] I J k = some ((some (.int t0)), mk I J, k) := by
  exact tt_r1 rfl rfl
/-! 6: EditionGrid.feed -/
theorem B6_0 {l1 : Int64} {l3 : Int32}  : zd S 6 0 [some (.ref 0), some (.long l1), none, some (.int l3), none, none] [] I J k = if l3 < 1 then zd S 6 11 [some (.ref 0), some (.long l1), none, some (.int l3), none, none] [] I J k else zd S 6 5 [some (.ref 0), some (.long l1), none, some (.int l3), none, none] [] I J k := by
  refine (tt_f rfl).trans ?_
  refine (tt_il rfl).trans ?_
  refine (tt_f rfl).trans ?_
  refine tt_c.trans ?_
  refine (tt_f rfl).trans ?_
  exact tt_f2 (p := fun x y => x < y) inferInstance rfl
theorem B6_5 {l1 : Int64} {l3 : Int32}  : zd S 6 5 [some (.ref 0), some (.long l1), none, some (.int l3), none, none] [] I J k = if l3 ≤ 8 then zd S 6 13 [some (.ref 0), some (.long l1), none, some (.int l3), none, none] [] I J k else zd S 6 11 [some (.ref 0), some (.long l1), none, some (.int l3), none, none] [] I J k := by
  refine (tt_f rfl).trans ?_
  refine (tt_il rfl).trans ?_
  refine (tt_f rfl).trans ?_
  refine tt_c.trans ?_
  refine (tt_f rfl).trans ?_
  exact tt_f2 (p := fun x y => x ≤ y) inferInstance rfl
theorem B6_11 {l1 : Int64} {l3 : Int32}  : zd S 6 11 [some (.ref 0), some (.long l1), none, some (.int l3), none, none] [] I J k = some ((some (.int (-1))), mk I J, k) := by
  refine (tt_fk rfl rfl).trans ?_
  refine tt_c.trans ?_
  exact tt_r1 rfl rfl
theorem B6_13 {l1 : Int64} {l3 : Int32}  : zd S 6 13 [some (.ref 0), some (.long l1), none, some (.int l3), none, none] [] I J k = zd S 6 16 [some (.ref 0), some (.long l1), none, some (.int l3), some (.int 0), none] [] I J k := by
  refine (tt_f rfl).trans ?_
  refine tt_c.trans ?_
  refine (tt_f rfl).trans ?_
  refine (tt_is rfl rfl).trans ?_
  rfl
theorem B6_16 {l1 : Int64} {l3 : Int32} {l4 : Int32}  : zd S 6 16 [some (.ref 0), some (.long l1), none, some (.int l3), some (.int l4), none] [] I J k = if l3 ≤ l4 then zd S 6 60 [some (.ref 0), some (.long l1), none, some (.int l3), some (.int l4), none] [] I J k else zd S 6 22 [some (.ref 0), some (.long l1), none, some (.int l3), some (.int l4), none] [] I J k := by
  refine (tt_fk rfl rfl).trans ?_
  refine (tt_il rfl).trans ?_
  refine (tt_f rfl).trans ?_
  refine (tt_il rfl).trans ?_
  refine (tt_f rfl).trans ?_
  exact tt_f2 (p := fun x y => y ≤ x) inferInstance rfl
theorem B6_22 {l1 : Int64} {l3 : Int32} {l4 : Int32} {v1 : Int32} {I2 : zI} {J3 : zJ} (hb : Nat.ble k.1 (mBu 6).1 = true ∧ Nat.ble k.2 (mBu 6).2 = true) (hq : zq S 21 [.long l1, .int l3, .int l4] I J (some (.int v1)) I2 J3) : zd S 6 22 [some (.ref 0), some (.long l1), none, some (.int l3), some (.int l4), none] [] I J k = zd S 6 29 [some (.ref 0), some (.long l1), none, some (.int l3), some (.int l4), none] [.int v1] I2 J3 k := by
  refine (tt_f rfl).trans ?_
  refine (tt_ll rfl).trans ?_
  refine (tt_f rfl).trans ?_
  refine (tt_il rfl).trans ?_
  refine (tt_f rfl).trans ?_
  refine (tt_il rfl).trans ?_
  exact tt_cs (vs := [.long l1, .int l3, .int l4]) rfl hb.1 hb.2 rfl rfl rfl rfl hq
theorem B6_29 {l1 : Int64} {l3 : Int32} {l4 : Int32} {t0 : Int32}  : zd S 6 29 [some (.ref 0), some (.long l1), none, some (.int l3), some (.int l4), none] [.int t0] I J k = if t0 = 10 then zd S 6 54 [some (.ref 0), some (.long l1), none, some (.int l3), some (.int l4), some (.int t0)] [] I J k else zd S 6 38 [some (.ref 0), some (.long l1), none, some (.int l3), some (.int l4), some (.int t0)] [] I J k := by
  refine (tt_f rfl).trans ?_
  refine (tt_is rfl rfl).trans ?_
  refine (tt_f rfl).trans ?_
  refine (tt_il rfl).trans ?_
  refine (tt_f rfl).trans ?_
  refine tt_c.trans ?_
  refine (tt_f rfl).trans ?_
  exact tt_f2 (p := fun x y => x = y) inferInstance rfl
theorem B6_38 {l1 : Int64} {l3 : Int32} {l4 : Int32} {l5 : Int32}  : zd S 6 38 [some (.ref 0), some (.long l1), none, some (.int l3), some (.int l4), some (.int l5)] [] I J k = if l5 < 32 then zd S 6 52 [some (.ref 0), some (.long l1), none, some (.int l3), some (.int l4), some (.int l5)] [] I J k else zd S 6 45 [some (.ref 0), some (.long l1), none, some (.int l3), some (.int l4), some (.int l5)] [] I J k := by
  refine (tt_f rfl).trans ?_
  refine (tt_il rfl).trans ?_
  refine (tt_f rfl).trans ?_
  refine tt_c.trans ?_
  refine (tt_f rfl).trans ?_
  exact tt_f2 (p := fun x y => x < y) inferInstance rfl
theorem B6_45 {l1 : Int64} {l3 : Int32} {l4 : Int32} {l5 : Int32}  : zd S 6 45 [some (.ref 0), some (.long l1), none, some (.int l3), some (.int l4), some (.int l5)] [] I J k = if l5 ≤ 126 then zd S 6 54 [some (.ref 0), some (.long l1), none, some (.int l3), some (.int l4), some (.int l5)] [] I J k else zd S 6 52 [some (.ref 0), some (.long l1), none, some (.int l3), some (.int l4), some (.int l5)] [] I J k := by
  refine (tt_f rfl).trans ?_
  refine (tt_il rfl).trans ?_
  refine (tt_f rfl).trans ?_
  refine tt_c.trans ?_
  refine (tt_f rfl).trans ?_
  exact tt_f2 (p := fun x y => x ≤ y) inferInstance rfl
theorem B6_52 {l1 : Int64} {l3 : Int32} {l4 : Int32} {l5 : Int32}  : zd S 6 52 [some (.ref 0), some (.long l1), none, some (.int l3), some (.int l4), some (.int l5)] [] I J k = some ((some (.int (-1))), mk I J, k) := by
  refine (tt_fk rfl rfl).trans ?_
  refine tt_c.trans ?_
  exact tt_r1 rfl rfl
theorem B6_54 {l1 : Int64} {l3 : Int32} {l4 : Int32} {l5 : Int32}  : zd S 6 54 [some (.ref 0), some (.long l1), none, some (.int l3), some (.int l4), some (.int l5)] [] I J k = zd S 6 16 [some (.ref 0), some (.long l1), none, some (.int l3), some (.int (l4 + 1)), none] [] I J k := by
  refine (tt_fk rfl rfl).trans ?_
  refine (tt_in rfl rfl).trans ?_
  refine (tt_f rfl).trans ?_
  refine tt_go.trans ?_
  rfl
theorem B6_60 {l1 : Int64} {l3 : Int32} {l4 : Int32}  : zd S 6 60 [some (.ref 0), some (.long l1), none, some (.int l3), some (.int l4), none] [] I J k = if ((I 0 8) + l3) ≤ 480 then zd S 6 75 [some (.ref 0), some (.long l1), none, some (.int l3), some (.int l4), none] [] I J k else zd S 6 72 [some (.ref 0), some (.long l1), none, some (.int l3), some (.int l4), none] [] I J k := by
  refine (tt_f rfl).trans ?_
  refine (tt_al rfl).trans ?_
  refine (tt_f rfl).trans ?_
  refine (tt_gi rfl rfl).trans ?_
  refine (tt_f rfl).trans ?_
  refine (tt_il rfl).trans ?_
  refine (tt_f rfl).trans ?_
  refine tt_bi.trans ?_
  refine (tt_f rfl).trans ?_
  refine tt_c.trans ?_
  refine (tt_f rfl).trans ?_
  exact tt_f2 (p := fun x y => x ≤ y) inferInstance rfl
theorem B6_72 {l1 : Int64} {l3 : Int32} {l4 : Int32}  : zd S 6 72 [some (.ref 0), some (.long l1), none, some (.int l3), some (.int l4), none] [] I J k = some ((some (.int (-2))), mk I J, k) := by
  refine (tt_f rfl).trans ?_
  refine tt_c.trans ?_
  exact tt_r1 rfl rfl
theorem B6_75 {l1 : Int64} {l3 : Int32} {l4 : Int32}  : zd S 6 75 [some (.ref 0), some (.long l1), none, some (.int l3), some (.int l4), none] [] I J k = zd S 6 78 [some (.ref 0), some (.long l1), none, some (.int l3), some (.int 0), none] [] I J k := by
  refine (tt_f rfl).trans ?_
  refine tt_c.trans ?_
  refine (tt_f rfl).trans ?_
  refine (tt_is rfl rfl).trans ?_
  rfl
theorem B6_78 {l1 : Int64} {l3 : Int32} {l4 : Int32}  : zd S 6 78 [some (.ref 0), some (.long l1), none, some (.int l3), some (.int l4), none] [] I J k = if l3 ≤ l4 then zd S 6 110 [some (.ref 0), some (.long l1), none, some (.int l3), some (.int l4), none] [] I J k else zd S 6 84 [some (.ref 0), some (.long l1), none, some (.int l3), some (.int l4), none] [] I J k := by
  refine (tt_fk rfl rfl).trans ?_
  refine (tt_il rfl).trans ?_
  refine (tt_f rfl).trans ?_
  refine (tt_il rfl).trans ?_
  refine (tt_f rfl).trans ?_
  exact tt_f2 (p := fun x y => y ≤ x) inferInstance rfl
theorem B6_84 {l1 : Int64} {l3 : Int32} {l4 : Int32} {v1 : Int32} {I2 : zI} {J3 : zJ} (hb : Nat.ble k.1 (mBu 6).1 = true ∧ Nat.ble k.2 (mBu 6).2 = true) (hq : zq S 21 [.long l1, .int l3, .int l4] I J (some (.int v1)) I2 J3) : zd S 6 84 [some (.ref 0), some (.long l1), none, some (.int l3), some (.int l4), none] [] I J k = zd S 6 102 [some (.ref 0), some (.long l1), none, some (.int l3), some (.int l4), none] [.int v1, .int ((I 0 8) + l4), .ref 2] I2 J3 k := by
  refine (tt_f rfl).trans ?_
  refine (tt_al rfl).trans ?_
  refine (tt_f rfl).trans ?_
  refine (tt_gr rfl rfl).trans ?_
  refine (tt_f rfl).trans ?_
  refine (tt_al rfl).trans ?_
  refine (tt_f rfl).trans ?_
  refine (tt_gi rfl rfl).trans ?_
  refine (tt_f rfl).trans ?_
  refine (tt_il rfl).trans ?_
  refine (tt_f rfl).trans ?_
  refine tt_bi.trans ?_
  refine (tt_f rfl).trans ?_
  refine (tt_ll rfl).trans ?_
  refine (tt_f rfl).trans ?_
  refine (tt_il rfl).trans ?_
  refine (tt_f rfl).trans ?_
  refine (tt_il rfl).trans ?_
  exact tt_cs (vs := [.long l1, .int l3, .int l4]) rfl hb.1 hb.2 rfl rfl rfl rfl hq
theorem B6_102 {l1 : Int64} {l3 : Int32} {l4 : Int32} {t1 : Int32} {t2 : Int32} (hi1 : zin t1 480 = true) : zd S 6 102 [some (.ref 0), some (.long l1), none, some (.int l3), some (.int l4), none] [.int t2, .int t1, .ref 2] I J k = zd S 6 104 [some (.ref 0), some (.long l1), none, some (.int l3), some (.int l4), none] [] (u2 I 2 t1.toNatClampNeg (vp_nar .char ((t2).toUInt32 % 65536).toInt32)) J k := by
  refine (tt_f rfl).trans ?_
  refine tt_ui.trans ?_
  refine (tt_f rfl).trans ?_
  exact tt_pa rfl rfl hi1
theorem B6_104 {l1 : Int64} {l3 : Int32} {l4 : Int32}  : zd S 6 104 [some (.ref 0), some (.long l1), none, some (.int l3), some (.int l4), none] [] I J k = zd S 6 78 [some (.ref 0), some (.long l1), none, some (.int l3), some (.int (l4 + 1)), none] [] I J k := by
  refine (tt_f rfl).trans ?_
  refine (tt_in rfl rfl).trans ?_
  refine (tt_f rfl).trans ?_
  refine tt_go.trans ?_
  rfl
theorem B6_110 {l1 : Int64} {l3 : Int32} {l4 : Int32}  : zd S 6 110 [some (.ref 0), some (.long l1), none, some (.int l3), some (.int l4), none] [] I J k = zd S 6 120 [some (.ref 0), some (.long l1), none, some (.int l3), some (.int l4), none] [] (u2 I 0 8 ((I 0 8) + l3)) J k := by
  refine (tt_f rfl).trans ?_
  refine (tt_al rfl).trans ?_
  refine (tt_f rfl).trans ?_
  refine (tt_dup rfl).trans ?_
  refine (tt_f rfl).trans ?_
  refine (tt_gi rfl rfl).trans ?_
  refine (tt_f rfl).trans ?_
  refine (tt_il rfl).trans ?_
  refine (tt_f rfl).trans ?_
  refine tt_bi.trans ?_
  refine (tt_f rfl).trans ?_
  exact tt_pi rfl rfl rfl
theorem B6_120 {l1 : Int64} {l3 : Int32} {l4 : Int32}  : zd S 6 120 [some (.ref 0), some (.long l1), none, some (.int l3), some (.int l4), none] [] I J k = some ((some (.int (I 0 8))), mk I J, k) := by
  refine (tt_f rfl).trans ?_
  refine (tt_al rfl).trans ?_
  refine (tt_f rfl).trans ?_
  refine (tt_gi rfl rfl).trans ?_
  exact tt_r1 rfl rfl
/-! 7: EditionGrid.clear -/
theorem B7_0   : zd S 7 0 [some (.ref 0), none] [] I J k = zd S 7 10 [some (.ref 0), some (.int (I 0 8))] [] (u2 I 0 8 0) J k := by
  refine (tt_f rfl).trans ?_
  refine (tt_al rfl).trans ?_
  refine (tt_f rfl).trans ?_
  refine (tt_gi rfl rfl).trans ?_
  refine (tt_f rfl).trans ?_
  refine (tt_is rfl rfl).trans ?_
  refine (tt_f rfl).trans ?_
  refine (tt_al rfl).trans ?_
  refine (tt_f rfl).trans ?_
  refine tt_c.trans ?_
  refine (tt_f rfl).trans ?_
  exact tt_pi rfl rfl rfl
theorem B7_10 {l1 : Int32}  : zd S 7 10 [some (.ref 0), some (.int l1)] [] I J k = some ((some (.int l1)), mk I J, k) := by
  refine (tt_f rfl).trans ?_
  refine (tt_il rfl).trans ?_
  exact tt_r1 rfl rfl
/-! 8: EditionGrid.read -/
theorem B8_0 {I1 : zI} {J2 : zJ} (hb : Nat.ble k.1 (mBu 8).1 = true ∧ Nat.ble k.2 (mBu 8).2 = true) (hq : zq S 81 [.ref 70] I J none I1 J2) : zd S 8 0 [some (.ref 0)] [] I J k = zd S 8 10 [some (.ref 0)] [] I1 J2 k := by
  refine (tt_f rfl).trans ?_
  refine (tt_al rfl).trans ?_
  refine (tt_f rfl).trans ?_
  refine (tt_gr rfl rfl).trans ?_
  refine (tt_f rfl).trans ?_
  refine (tt_gr rfl rfl).trans ?_
  exact tt_cv (As := []) rfl hb.1 hb.2 rfl rfl rfl rfl rfl hq
theorem B8_10   : zd S 8 10 [some (.ref 0)] [] I J k = zd S 8 15 [some (.ref 0)] [] (u2 I 0 9 0) J k := by
  refine (tt_f rfl).trans ?_
  refine (tt_al rfl).trans ?_
  refine (tt_f rfl).trans ?_
  refine tt_c.trans ?_
  refine (tt_f rfl).trans ?_
  exact tt_pi rfl rfl (by decide)
theorem B8_15 {I1 : zI} {J2 : zJ} (hb : Nat.ble k.1 (mBu 8).1 = true ∧ Nat.ble k.2 (mBu 8).2 = true) (hq : zq S 72 [.ref 4, .ref 2, .int (I 0 8)] I J none I1 J2) : zd S 8 15 [some (.ref 0)] [] I J k = zd S 8 30 [some (.ref 0)] [] I1 J2 k := by
  refine (tt_f rfl).trans ?_
  refine (tt_al rfl).trans ?_
  refine (tt_f rfl).trans ?_
  refine (tt_gr rfl rfl).trans ?_
  refine (tt_f rfl).trans ?_
  refine (tt_al rfl).trans ?_
  refine (tt_f rfl).trans ?_
  refine (tt_gr rfl rfl).trans ?_
  refine (tt_f rfl).trans ?_
  refine (tt_al rfl).trans ?_
  refine (tt_f rfl).trans ?_
  refine (tt_gi rfl rfl).trans ?_
  exact tt_cv (As := [.ref 2, .int (I 0 8)]) rfl hb.1 hb.2 rfl rfl rfl rfl rfl hq
theorem B8_30   : zd S 8 30 [some (.ref 0)] [] I J k = if ¬ (I 4 4) = 0 then zd S 8 44 [some (.ref 0)] [] I J k else zd S 8 40 [some (.ref 0)] [] I J k := by
  refine (tt_f rfl).trans ?_
  refine (tt_al rfl).trans ?_
  refine (tt_f rfl).trans ?_
  refine (tt_gr rfl rfl).trans ?_
  refine (tt_f rfl).trans ?_
  refine (tt_gi rfl rfl).trans ?_
  refine (tt_f rfl).trans ?_
  exact tt_f1 (p := fun x => ¬ x = 0) inferInstance rfl
theorem B8_40   : zd S 8 40 [some (.ref 0)] [] I J k = some ((some (.int (-1))), mk I J, k) := by
  refine (tt_f rfl).trans ?_
  refine tt_c.trans ?_
  refine (tt_f rfl).trans ?_
  refine tt_go.trans ?_
  exact tt_r1 rfl rfl
theorem B8_44   : zd S 8 44 [some (.ref 0)] [] I J k = some ((some (.int (I 4 4))), mk I J, k) := by
  refine (tt_f rfl).trans ?_
  refine (tt_al rfl).trans ?_
  refine (tt_f rfl).trans ?_
  refine (tt_gr rfl rfl).trans ?_
  refine (tt_f rfl).trans ?_
  refine (tt_gi rfl rfl).trans ?_
  exact tt_r1 rfl rfl
/-! 9: EditionGrid.fault -/
theorem B9_0   : zd S 9 0 [some (.ref 0)] [] I J k = some ((some (.int (I 4 5))), mk I J, k) := by
  refine (tt_f rfl).trans ?_
  refine (tt_al rfl).trans ?_
  refine (tt_f rfl).trans ?_
  refine (tt_gr rfl rfl).trans ?_
  refine (tt_f rfl).trans ?_
  refine (tt_gi rfl rfl).trans ?_
  exact tt_r1 rfl rfl
/-! 10: EditionGrid.plan -/
theorem B10_0   : zd S 10 0 [some (.ref 0), none, none, none, none] [] I J k = if ¬ (I 4 4) = 0 then zd S 10 12 [some (.ref 0), none, none, none, none] [] I J k else zd S 10 10 [some (.ref 0), none, none, none, none] [] I J k := by
  refine (tt_f rfl).trans ?_
  refine (tt_al rfl).trans ?_
  refine (tt_f rfl).trans ?_
  refine (tt_gr rfl rfl).trans ?_
  refine (tt_f rfl).trans ?_
  refine (tt_gi rfl rfl).trans ?_
  refine (tt_f rfl).trans ?_
  exact tt_f1 (p := fun x => ¬ x = 0) inferInstance rfl
theorem B10_10   : zd S 10 10 [some (.ref 0), none, none, none, none] [] I J k = some ((some (.int (-1))), mk I J, k) := by
  refine (tt_f rfl).trans ?_
  refine tt_c.trans ?_
  exact tt_r1 rfl rfl
theorem B10_12 {I1 : zI} {J2 : zJ} (hb : Nat.ble k.1 (mBu 10).1 = true ∧ Nat.ble k.2 (mBu 10).2 = true) (hq : zq S 81 [.ref 70] I J none I1 J2) : zd S 10 12 [some (.ref 0), none, none, none, none] [] I J k = zd S 10 22 [some (.ref 0), none, none, none, none] [] I1 J2 k := by
  refine (tt_f rfl).trans ?_
  refine (tt_al rfl).trans ?_
  refine (tt_f rfl).trans ?_
  refine (tt_gr rfl rfl).trans ?_
  refine (tt_f rfl).trans ?_
  refine (tt_gr rfl rfl).trans ?_
  exact tt_cv (As := []) rfl hb.1 hb.2 rfl rfl rfl rfl rfl hq
theorem B10_22 {I1 : zI} {J2 : zJ} (hb : Nat.ble k.1 (mBu 10).1 = true ∧ Nat.ble k.2 (mBu 10).2 = true) (hq : zq S 39 [.ref 73, .ref 5, .ref 1] I J none I1 J2) : zd S 10 22 [some (.ref 0), none, none, none, none] [] I J k = zd S 10 40 [some (.ref 0), none, none, none, none] [] I1 J2 k := by
  refine (tt_f rfl).trans ?_
  refine (tt_al rfl).trans ?_
  refine (tt_f rfl).trans ?_
  refine (tt_gr rfl rfl).trans ?_
  refine (tt_f rfl).trans ?_
  refine (tt_al rfl).trans ?_
  refine (tt_f rfl).trans ?_
  refine (tt_gr rfl rfl).trans ?_
  refine (tt_f rfl).trans ?_
  refine (tt_gr rfl rfl).trans ?_
  refine (tt_f rfl).trans ?_
  refine (tt_al rfl).trans ?_
  refine (tt_f rfl).trans ?_
  refine (tt_gr rfl rfl).trans ?_
  exact tt_cv (As := [.ref 5, .ref 1]) rfl hb.1 hb.2 rfl rfl rfl rfl rfl hq
theorem B10_40   : zd S 10 40 [some (.ref 0), none, none, none, none] [] I J k = zd S 10 45 [some (.ref 0), some (.int 0), some (.int 9), none, none] [] I J k := by
  refine (tt_f rfl).trans ?_
  refine tt_c.trans ?_
  refine (tt_f rfl).trans ?_
  refine (tt_is rfl rfl).trans ?_
  refine (tt_f rfl).trans ?_
  refine tt_c.trans ?_
  refine (tt_f rfl).trans ?_
  refine (tt_is rfl rfl).trans ?_
  rfl
theorem B10_45 {l1 : Int32} {l2 : Int32} {o3 : Option Value}  : zd S 10 45 [some (.ref 0), some (.int l1), some (.int l2), o3, none] [] I J k = if l2 < 0 then zd S 10 139 [some (.ref 0), some (.int l1), some (.int l2), none, none] [] I J k else zd S 10 49 [some (.ref 0), some (.int l1), some (.int l2), none, none] [] I J k := by
  refine (tt_fk rfl rfl).trans ?_
  refine (tt_il rfl).trans ?_
  refine (tt_f rfl).trans ?_
  exact tt_f1 (p := fun x => x < 0) inferInstance rfl
theorem B10_49 {l1 : Int32} {l2 : Int32}  : zd S 10 49 [some (.ref 0), some (.int l1), some (.int l2), none, none] [] I J k = zd S 10 51 [some (.ref 0), some (.int l1), some (.int l2), some (.int 0), none] [] I J k := by
  refine (tt_f rfl).trans ?_
  refine tt_c.trans ?_
  refine (tt_f rfl).trans ?_
  refine (tt_is rfl rfl).trans ?_
  rfl
theorem B10_51 {l1 : Int32} {l2 : Int32} {l3 : Int32}  : zd S 10 51 [some (.ref 0), some (.int l1), some (.int l2), some (.int l3), none] [] I J k = if (I 4 4) ≤ l3 then zd S 10 133 [some (.ref 0), some (.int l1), some (.int l2), some (.int l3), none] [] I J k else zd S 10 62 [some (.ref 0), some (.int l1), some (.int l2), some (.int l3), none] [] I J k := by
  refine (tt_fk rfl rfl).trans ?_
  refine (tt_il rfl).trans ?_
  refine (tt_f rfl).trans ?_
  refine (tt_al rfl).trans ?_
  refine (tt_f rfl).trans ?_
  refine (tt_gr rfl rfl).trans ?_
  refine (tt_f rfl).trans ?_
  refine (tt_gi rfl rfl).trans ?_
  refine (tt_f rfl).trans ?_
  exact tt_f2 (p := fun x y => y ≤ x) inferInstance rfl
theorem B10_62 {l1 : Int32} {l2 : Int32} {l3 : Int32} {s70x : Nat} (hs70x : s70x < 4) (hi1 : zin l3 4 = true) (ha2 : ([7, 19, 31, 43] : List Nat)[l3.toNatClampNeg]? = some (7 + 12 * s70x)) : zd S 10 62 [some (.ref 0), some (.int l1), some (.int l2), some (.int l3), none] [] I J k = if ¬ (I (7 + 12 * s70x) 8) = l2 then zd S 10 127 [some (.ref 0), some (.int l1), some (.int l2), some (.int l3), some (.ref (7 + 12 * s70x))] [] I J k else zd S 10 82 [some (.ref 0), some (.int l1), some (.int l2), some (.int l3), some (.ref (7 + 12 * s70x))] [] I J k := by
  refine (tt_f rfl).trans ?_
  refine (tt_al rfl).trans ?_
  refine (tt_f rfl).trans ?_
  refine (tt_gr rfl rfl).trans ?_
  refine (tt_f rfl).trans ?_
  refine (tt_gr rfl rfl).trans ?_
  refine (tt_f rfl).trans ?_
  refine (tt_il rfl).trans ?_
  refine (tt_f rfl).trans ?_
  refine (tt_gq rfl hi1 ha2).trans ?_
  refine (tt_f rfl).trans ?_
  refine (tt_as rfl rfl).trans ?_
  refine (tt_f rfl).trans ?_
  refine (tt_al rfl).trans ?_
  refine (tt_f rfl).trans ?_
  refine (tt_gi (shS hs70x) rfl).trans ?_
  refine (tt_f rfl).trans ?_
  refine (tt_il rfl).trans ?_
  refine (tt_f rfl).trans ?_
  exact tt_f2 (p := fun x y => ¬ x = y) inferInstance rfl
theorem B10_82 {l1 : Int32} {l2 : Int32} {l3 : Int32} {s70x : Nat} {I1 : zI} {J2 : zJ} (hb : Nat.ble k.1 (mBu 10).1 = true ∧ Nat.ble k.2 (mBu 10).2 = true) (hs70x : s70x < 4) (hq : zq S 24 [.ref 55, .ref (7 + 12 * s70x), .ref 5, .ref 1] I J none I1 J2) : zd S 10 82 [some (.ref 0), some (.int l1), some (.int l2), some (.int l3), some (.ref (7 + 12 * s70x))] [] I J k = zd S 10 102 [some (.ref 0), some (.int l1), some (.int l2), some (.int l3), some (.ref (7 + 12 * s70x))] [] I1 J2 k := by
  refine (tt_f rfl).trans ?_
  refine (tt_al rfl).trans ?_
  refine (tt_f rfl).trans ?_
  refine (tt_gr rfl rfl).trans ?_
  refine (tt_f rfl).trans ?_
  refine (tt_al rfl).trans ?_
  refine (tt_f rfl).trans ?_
  refine (tt_al rfl).trans ?_
  refine (tt_f rfl).trans ?_
  refine (tt_gr rfl rfl).trans ?_
  refine (tt_f rfl).trans ?_
  refine (tt_gr rfl rfl).trans ?_
  refine (tt_f rfl).trans ?_
  refine (tt_al rfl).trans ?_
  refine (tt_f rfl).trans ?_
  refine (tt_gr rfl rfl).trans ?_
  exact tt_cv (As := [.ref (7 + 12 * s70x), .ref 5, .ref 1]) rfl hb.1 hb.2 rfl rfl rfl rfl rfl hq
theorem B10_102 {l1 : Int32} {l2 : Int32} {l3 : Int32} {s70x : Nat} {I1 : zI} {J2 : zJ} (hb : Nat.ble k.1 (mBu 10).1 = true ∧ Nat.ble k.2 (mBu 10).2 = true) (hs70x : s70x < 4) (hq : zq S 60 [.ref 65, .ref (7 + 12 * s70x)] I J none I1 J2) : zd S 10 102 [some (.ref 0), some (.int l1), some (.int l2), some (.int l3), some (.ref (7 + 12 * s70x))] [] I J k = zd S 10 111 [some (.ref 0), some (.int l1), some (.int l2), some (.int l3), some (.ref (7 + 12 * s70x))] [] I1 J2 k := by
  refine (tt_f rfl).trans ?_
  refine (tt_al rfl).trans ?_
  refine (tt_f rfl).trans ?_
  refine (tt_gr rfl rfl).trans ?_
  refine (tt_f rfl).trans ?_
  refine (tt_al rfl).trans ?_
  exact tt_cv (As := [.ref (7 + 12 * s70x)]) rfl hb.1 hb.2 rfl rfl rfl rfl rfl hq
theorem B10_111 {l1 : Int32} {l2 : Int32} {l3 : Int32} {s70x : Nat} (hs70x : s70x < 4) : zd S 10 111 [some (.ref 0), some (.int l1), some (.int l2), some (.int l3), some (.ref (7 + 12 * s70x))] [] I J k = if ¬ (I (7 + 12 * s70x) 14) = 0 then zd S 10 124 [some (.ref 0), some (.int l1), some (.int l2), some (.int l3), some (.ref (7 + 12 * s70x))] [.int l1] I J k else zd S 10 120 [some (.ref 0), some (.int l1), some (.int l2), some (.int l3), some (.ref (7 + 12 * s70x))] [.int l1] I J k := by
  refine (tt_f rfl).trans ?_
  refine (tt_il rfl).trans ?_
  refine (tt_f rfl).trans ?_
  refine (tt_al rfl).trans ?_
  refine (tt_f rfl).trans ?_
  refine (tt_gi (shS hs70x) rfl).trans ?_
  refine (tt_f rfl).trans ?_
  exact tt_f1 (p := fun x => ¬ x = 0) inferInstance rfl
theorem B10_120 {l1 : Int32} {l2 : Int32} {l3 : Int32} {t0 : Int32} {s70x : Nat} (hs70x : s70x < 4) : zd S 10 120 [some (.ref 0), some (.int l1), some (.int l2), some (.int l3), some (.ref (7 + 12 * s70x))] [.int t0] I J k = zd S 10 51 [some (.ref 0), some (.int (t0 + 1)), some (.int l2), some (.int (l3 + 1)), none] [] I J k := by
  refine (tt_f rfl).trans ?_
  refine tt_c.trans ?_
  refine (tt_f rfl).trans ?_
  refine tt_go.trans ?_
  refine (tt_fk rfl rfl).trans ?_
  refine tt_bi.trans ?_
  refine (tt_f rfl).trans ?_
  refine (tt_is rfl rfl).trans ?_
  refine (tt_fk rfl rfl).trans ?_
  refine (tt_in rfl rfl).trans ?_
  refine (tt_f rfl).trans ?_
  refine tt_go.trans ?_
  rfl
theorem B10_124 {l1 : Int32} {l2 : Int32} {l3 : Int32} {t0 : Int32} {s70x : Nat} (hs70x : s70x < 4) : zd S 10 124 [some (.ref 0), some (.int l1), some (.int l2), some (.int l3), some (.ref (7 + 12 * s70x))] [.int t0] I J k = zd S 10 51 [some (.ref 0), some (.int (t0 + 0)), some (.int l2), some (.int (l3 + 1)), none] [] I J k := by
  refine (tt_f rfl).trans ?_
  refine tt_c.trans ?_
  refine (tt_fk rfl rfl).trans ?_
  refine tt_bi.trans ?_
  refine (tt_f rfl).trans ?_
  refine (tt_is rfl rfl).trans ?_
  refine (tt_fk rfl rfl).trans ?_
  refine (tt_in rfl rfl).trans ?_
  refine (tt_f rfl).trans ?_
  refine tt_go.trans ?_
  rfl
theorem B10_127 {l1 : Int32} {l2 : Int32} {l3 : Int32} {s70x : Nat} (hs70x : s70x < 4) : zd S 10 127 [some (.ref 0), some (.int l1), some (.int l2), some (.int l3), some (.ref (7 + 12 * s70x))] [] I J k = zd S 10 51 [some (.ref 0), some (.int l1), some (.int l2), some (.int (l3 + 1)), none] [] I J k := by
  refine (tt_fk rfl rfl).trans ?_
  refine (tt_in rfl rfl).trans ?_
  refine (tt_f rfl).trans ?_
  refine tt_go.trans ?_
  rfl
theorem B10_133 {l1 : Int32} {l2 : Int32} {l3 : Int32}  : zd S 10 133 [some (.ref 0), some (.int l1), some (.int l2), some (.int l3), none] [] I J k = zd S 10 45 [some (.ref 0), some (.int l1), some (.int (l2 + (-1))), some (.int l3), none] [] I J k := by
  refine (tt_f rfl).trans ?_
  refine (tt_in rfl rfl).trans ?_
  refine (tt_f rfl).trans ?_
  refine tt_go.trans ?_
  rfl
theorem B10_139 {l1 : Int32} {l2 : Int32}  : zd S 10 139 [some (.ref 0), some (.int l1), some (.int l2), none, none] [] I J k = zd S 10 144 [some (.ref 0), some (.int l1), some (.int l2), none, none] [] (u2 I 0 9 1) J k := by
  refine (tt_f rfl).trans ?_
  refine (tt_al rfl).trans ?_
  refine (tt_f rfl).trans ?_
  refine tt_c.trans ?_
  refine (tt_f rfl).trans ?_
  exact tt_pi rfl rfl (by decide)
theorem B10_144 {l1 : Int32} {l2 : Int32}  : zd S 10 144 [some (.ref 0), some (.int l1), some (.int l2), none, none] [] I J k = some ((some (.int l1)), mk I J, k) := by
  refine (tt_f rfl).trans ?_
  refine (tt_il rfl).trans ?_
  exact tt_r1 rfl rfl
/-! 11: EditionGrid.held -/
theorem B11_0 {l1 : Int32} {v1 : Int32} {I2 : zI} {J3 : zJ} (hb : Nat.ble k.1 (mBu 11).1 = true ∧ Nat.ble k.2 (mBu 11).2 = true) (hq : zq S 17 [.ref 0, .int l1] I J (some (.int v1)) I2 J3) : zd S 11 0 [some (.ref 0), some (.int l1)] [] I J k = zd S 11 5 [some (.ref 0), some (.int l1)] [.int v1] I2 J3 k := by
  refine (tt_f rfl).trans ?_
  refine (tt_al rfl).trans ?_
  refine (tt_f rfl).trans ?_
  refine (tt_il rfl).trans ?_
  exact tt_cv (As := [.int l1]) rfl hb.1 hb.2 rfl rfl rfl rfl rfl hq
theorem B11_5 {l1 : Int32} {t0 : Int32}  : zd S 11 5 [some (.ref 0), some (.int l1)] [.int t0] I J k = if t0 = 0 then zd S 11 23 [some (.ref 0), some (.int l1)] [] I J k else zd S 11 8 [some (.ref 0), some (.int l1)] [] I J k := by
  refine (tt_f rfl).trans ?_
  exact tt_f1 (p := fun x => x = 0) inferInstance rfl
theorem B11_8 {l1 : Int32} {s16x : Nat} (hs16x : s16x < 4) (hi1 : zin l1 4 = true) (ha2 : ([7, 19, 31, 43] : List Nat)[l1.toNatClampNeg]? = some (7 + 12 * s16x)) : zd S 11 8 [some (.ref 0), some (.int l1)] [] I J k = some ((some (.int (I (7 + 12 * s16x) 14))), mk I J, k) := by
  refine (tt_f rfl).trans ?_
  refine (tt_al rfl).trans ?_
  refine (tt_f rfl).trans ?_
  refine (tt_gr rfl rfl).trans ?_
  refine (tt_f rfl).trans ?_
  refine (tt_gr rfl rfl).trans ?_
  refine (tt_f rfl).trans ?_
  refine (tt_il rfl).trans ?_
  refine (tt_f rfl).trans ?_
  refine (tt_gq rfl hi1 ha2).trans ?_
  refine (tt_f rfl).trans ?_
  refine (tt_gi (shS hs16x) rfl).trans ?_
  refine (tt_f rfl).trans ?_
  refine tt_go.trans ?_
  exact tt_r1 rfl rfl
theorem B11_23 {l1 : Int32}  : zd S 11 23 [some (.ref 0), some (.int l1)] [] I J k = some ((some (.int (-1))), mk I J, k) := by
  refine (tt_f rfl).trans ?_
  refine tt_c.trans ?_
  exact tt_r1 rfl rfl
/-! 12: EditionGrid.lines -/
theorem B12_0 {l1 : Int32} {v1 : Int32} {I2 : zI} {J3 : zJ} (hb : Nat.ble k.1 (mBu 12).1 = true ∧ Nat.ble k.2 (mBu 12).2 = true) (hq : zq S 17 [.ref 0, .int l1] I J (some (.int v1)) I2 J3) : zd S 12 0 [some (.ref 0), some (.int l1), none] [] I J k = zd S 12 5 [some (.ref 0), some (.int l1), none] [.int v1] I2 J3 k := by
  refine (tt_f rfl).trans ?_
  refine (tt_al rfl).trans ?_
  refine (tt_f rfl).trans ?_
  refine (tt_il rfl).trans ?_
  exact tt_cv (As := [.int l1]) rfl hb.1 hb.2 rfl rfl rfl rfl rfl hq
theorem B12_5 {l1 : Int32} {t0 : Int32}  : zd S 12 5 [some (.ref 0), some (.int l1), none] [.int t0] I J k = if ¬ t0 = 0 then zd S 12 10 [some (.ref 0), some (.int l1), none] [] I J k else zd S 12 8 [some (.ref 0), some (.int l1), none] [] I J k := by
  refine (tt_f rfl).trans ?_
  exact tt_f1 (p := fun x => ¬ x = 0) inferInstance rfl
theorem B12_8 {l1 : Int32}  : zd S 12 8 [some (.ref 0), some (.int l1), none] [] I J k = some ((some (.int (-1))), mk I J, k) := by
  refine (tt_f rfl).trans ?_
  refine tt_c.trans ?_
  exact tt_r1 rfl rfl
theorem B12_10 {l1 : Int32} {s18x : Nat} (hs18x : s18x < 4) (hi1 : zin l1 4 = true) (ha2 : ([7, 19, 31, 43] : List Nat)[l1.toNatClampNeg]? = some (7 + 12 * s18x)) : zd S 12 10 [some (.ref 0), some (.int l1), none] [] I J k = if ¬ (I (7 + 12 * s18x) 14) = 1 then zd S 12 32 [some (.ref 0), some (.int l1), some (.ref (7 + 12 * s18x))] [] I J k else zd S 12 28 [some (.ref 0), some (.int l1), some (.ref (7 + 12 * s18x))] [] I J k := by
  refine (tt_f rfl).trans ?_
  refine (tt_al rfl).trans ?_
  refine (tt_f rfl).trans ?_
  refine (tt_gr rfl rfl).trans ?_
  refine (tt_f rfl).trans ?_
  refine (tt_gr rfl rfl).trans ?_
  refine (tt_f rfl).trans ?_
  refine (tt_il rfl).trans ?_
  refine (tt_f rfl).trans ?_
  refine (tt_gq rfl hi1 ha2).trans ?_
  refine (tt_f rfl).trans ?_
  refine (tt_as rfl rfl).trans ?_
  refine (tt_f rfl).trans ?_
  refine (tt_al rfl).trans ?_
  refine (tt_f rfl).trans ?_
  refine (tt_gi (shS hs18x) rfl).trans ?_
  refine (tt_f rfl).trans ?_
  refine tt_c.trans ?_
  refine (tt_f rfl).trans ?_
  exact tt_f2 (p := fun x y => ¬ x = y) inferInstance rfl
theorem B12_28 {l1 : Int32} {s18x : Nat} (hs18x : s18x < 4) : zd S 12 28 [some (.ref 0), some (.int l1), some (.ref (7 + 12 * s18x))] [] I J k = some ((some (.int 0)), mk I J, k) := by
  refine (tt_f rfl).trans ?_
  refine tt_c.trans ?_
  refine (tt_f rfl).trans ?_
  refine tt_go.trans ?_
  exact tt_r1 rfl rfl
theorem B12_32 {l1 : Int32} {s18x : Nat} (hs18x : s18x < 4) : zd S 12 32 [some (.ref 0), some (.int l1), some (.ref (7 + 12 * s18x))] [] I J k = some ((some (.int (I (7 + 12 * s18x) 15))), mk I J, k) := by
  refine (tt_f rfl).trans ?_
  refine (tt_al rfl).trans ?_
  refine (tt_f rfl).trans ?_
  refine (tt_gi (shS hs18x) rfl).trans ?_
  exact tt_r1 rfl rfl
/-! 13: EditionGrid.cost -/
theorem B13_0 {l1 : Int32} {l2 : Int32} {v1 : Int32} {I2 : zI} {J3 : zJ} (hb : Nat.ble k.1 (mBu 13).1 = true ∧ Nat.ble k.2 (mBu 13).2 = true) (hq : zq S 17 [.ref 0, .int l1] I J (some (.int v1)) I2 J3) : zd S 13 0 [some (.ref 0), some (.int l1), some (.int l2)] [] I J k = zd S 13 5 [some (.ref 0), some (.int l1), some (.int l2)] [.int v1] I2 J3 k := by
  refine (tt_f rfl).trans ?_
  refine (tt_al rfl).trans ?_
  refine (tt_f rfl).trans ?_
  refine (tt_il rfl).trans ?_
  exact tt_cv (As := [.int l1]) rfl hb.1 hb.2 rfl rfl rfl rfl rfl hq
theorem B13_5 {l1 : Int32} {l2 : Int32} {t0 : Int32}  : zd S 13 5 [some (.ref 0), some (.int l1), some (.int l2)] [.int t0] I J k = if t0 = 0 then zd S 13 28 [some (.ref 0), some (.int l1), some (.int l2)] [] I J k else zd S 13 8 [some (.ref 0), some (.int l1), some (.int l2)] [] I J k := by
  refine (tt_f rfl).trans ?_
  exact tt_f1 (p := fun x => x = 0) inferInstance rfl
theorem B13_8 {l1 : Int32} {l2 : Int32}  : zd S 13 8 [some (.ref 0), some (.int l1), some (.int l2)] [] I J k = if l2 < 0 then zd S 13 28 [some (.ref 0), some (.int l1), some (.int l2)] [] I J k else zd S 13 12 [some (.ref 0), some (.int l1), some (.int l2)] [] I J k := by
  refine (tt_f rfl).trans ?_
  refine (tt_il rfl).trans ?_
  refine (tt_f rfl).trans ?_
  exact tt_f1 (p := fun x => x < 0) inferInstance rfl
theorem B13_12 {l1 : Int32} {l2 : Int32} {s21x : Nat} (hs21x : s21x < 4) (hi1 : zin l1 4 = true) (ha2 : ([7, 19, 31, 43] : List Nat)[l1.toNatClampNeg]? = some (7 + 12 * s21x)) : zd S 13 12 [some (.ref 0), some (.int l1), some (.int l2)] [] I J k = if l2 < (I (7 + 12 * s21x) 11) then zd S 13 30 [some (.ref 0), some (.int l1), some (.int l2)] [] I J k else zd S 13 28 [some (.ref 0), some (.int l1), some (.int l2)] [] I J k := by
  refine (tt_f rfl).trans ?_
  refine (tt_il rfl).trans ?_
  refine (tt_f rfl).trans ?_
  refine (tt_al rfl).trans ?_
  refine (tt_f rfl).trans ?_
  refine (tt_gr rfl rfl).trans ?_
  refine (tt_f rfl).trans ?_
  refine (tt_gr rfl rfl).trans ?_
  refine (tt_f rfl).trans ?_
  refine (tt_il rfl).trans ?_
  refine (tt_f rfl).trans ?_
  refine (tt_gq rfl hi1 ha2).trans ?_
  refine (tt_f rfl).trans ?_
  refine (tt_gi (shS hs21x) rfl).trans ?_
  refine (tt_f rfl).trans ?_
  exact tt_f2 (p := fun x y => x < y) inferInstance rfl
theorem B13_28 {l1 : Int32} {l2 : Int32}  : zd S 13 28 [some (.ref 0), some (.int l1), some (.int l2)] [] I J k = some ((some (.int (-1))), mk I J, k) := by
  refine (tt_fk rfl rfl).trans ?_
  refine tt_c.trans ?_
  exact tt_r1 rfl rfl
theorem B13_30 {l1 : Int32} {l2 : Int32} {s38x : Nat} (hs38x : s38x < 4) (hi1 : zin l1 4 = true) (ha2 : ([7, 19, 31, 43] : List Nat)[l1.toNatClampNeg]? = some (7 + 12 * s38x)) (hi3 : zin l2 4 = true) : zd S 13 30 [some (.ref 0), some (.int l1), some (.int l2)] [] I J k = some ((some (.int (I (10 + 12 * s38x) l2.toNatClampNeg))), mk I J, k) := by
  refine (tt_f rfl).trans ?_
  refine (tt_al rfl).trans ?_
  refine (tt_f rfl).trans ?_
  refine (tt_gr rfl rfl).trans ?_
  refine (tt_f rfl).trans ?_
  refine (tt_gr rfl rfl).trans ?_
  refine (tt_f rfl).trans ?_
  refine (tt_il rfl).trans ?_
  refine (tt_f rfl).trans ?_
  refine (tt_gq rfl hi1 ha2).trans ?_
  refine (tt_f rfl).trans ?_
  refine (tt_gr (shS hs38x) rfl).trans ?_
  refine (tt_f rfl).trans ?_
  refine (tt_il rfl).trans ?_
  refine (tt_f rfl).trans ?_
  refine (tt_ga (shS3 hs38x) rfl hi3).trans ?_
  exact tt_r1 rfl rfl
/-! 14: EditionGrid.part -/
theorem B14_0 {l1 : Int32} {l2 : Int32} {l3 : Int32} {v1 : Int32} {I2 : zI} {J3 : zJ} (hb : Nat.ble k.1 (mBu 14).1 = true ∧ Nat.ble k.2 (mBu 14).2 = true) (hq : zq S 17 [.ref 0, .int l1] I J (some (.int v1)) I2 J3) : zd S 14 0 [some (.ref 0), some (.int l1), some (.int l2), some (.int l3)] [] I J k = zd S 14 5 [some (.ref 0), some (.int l1), some (.int l2), some (.int l3)] [.int v1] I2 J3 k := by
  refine (tt_f rfl).trans ?_
  refine (tt_al rfl).trans ?_
  refine (tt_f rfl).trans ?_
  refine (tt_il rfl).trans ?_
  exact tt_cv (As := [.int l1]) rfl hb.1 hb.2 rfl rfl rfl rfl rfl hq
theorem B14_5 {l1 : Int32} {l2 : Int32} {l3 : Int32} {t0 : Int32}  : zd S 14 5 [some (.ref 0), some (.int l1), some (.int l2), some (.int l3)] [.int t0] I J k = if t0 = 0 then zd S 14 28 [some (.ref 0), some (.int l1), some (.int l2), some (.int l3)] [] I J k else zd S 14 8 [some (.ref 0), some (.int l1), some (.int l2), some (.int l3)] [] I J k := by
  refine (tt_f rfl).trans ?_
  exact tt_f1 (p := fun x => x = 0) inferInstance rfl
theorem B14_8 {l1 : Int32} {l2 : Int32} {l3 : Int32}  : zd S 14 8 [some (.ref 0), some (.int l1), some (.int l2), some (.int l3)] [] I J k = if l2 < 0 then zd S 14 28 [some (.ref 0), some (.int l1), some (.int l2), some (.int l3)] [] I J k else zd S 14 12 [some (.ref 0), some (.int l1), some (.int l2), some (.int l3)] [] I J k := by
  refine (tt_f rfl).trans ?_
  refine (tt_il rfl).trans ?_
  refine (tt_f rfl).trans ?_
  exact tt_f1 (p := fun x => x < 0) inferInstance rfl
theorem B14_12 {l1 : Int32} {l2 : Int32} {l3 : Int32} {s21x : Nat} (hs21x : s21x < 4) (hi1 : zin l1 4 = true) (ha2 : ([7, 19, 31, 43] : List Nat)[l1.toNatClampNeg]? = some (7 + 12 * s21x)) : zd S 14 12 [some (.ref 0), some (.int l1), some (.int l2), some (.int l3)] [] I J k = if l2 < (I (7 + 12 * s21x) 16) then zd S 14 30 [some (.ref 0), some (.int l1), some (.int l2), some (.int l3)] [] I J k else zd S 14 28 [some (.ref 0), some (.int l1), some (.int l2), some (.int l3)] [] I J k := by
  refine (tt_f rfl).trans ?_
  refine (tt_il rfl).trans ?_
  refine (tt_f rfl).trans ?_
  refine (tt_al rfl).trans ?_
  refine (tt_f rfl).trans ?_
  refine (tt_gr rfl rfl).trans ?_
  refine (tt_f rfl).trans ?_
  refine (tt_gr rfl rfl).trans ?_
  refine (tt_f rfl).trans ?_
  refine (tt_il rfl).trans ?_
  refine (tt_f rfl).trans ?_
  refine (tt_gq rfl hi1 ha2).trans ?_
  refine (tt_f rfl).trans ?_
  refine (tt_gi (shS hs21x) rfl).trans ?_
  refine (tt_f rfl).trans ?_
  exact tt_f2 (p := fun x y => x < y) inferInstance rfl
theorem B14_28 {l1 : Int32} {l2 : Int32} {l3 : Int32}  : zd S 14 28 [some (.ref 0), some (.int l1), some (.int l2), some (.int l3)] [] I J k = some ((some (.int (-1))), mk I J, k) := by
  refine (tt_fk rfl rfl).trans ?_
  refine tt_c.trans ?_
  exact tt_r1 rfl rfl
theorem B14_30 {l1 : Int32} {l2 : Int32} {l3 : Int32} {s38x : Nat} {p43x : Nat} {v5 : Int32} {I6 : zI} {J7 : zJ} (hb : Nat.ble k.1 (mBu 14).1 = true ∧ Nat.ble k.2 (mBu 14).2 = true) (hs38x : s38x < 4) (hi1 : zin l1 4 = true) (ha2 : ([7, 19, 31, 43] : List Nat)[l1.toNatClampNeg]? = some (7 + 12 * s38x)) (hp43x : p43x < 2) (hi3 : zin l2 2 = true) (ha4 : ([15 + 12 * s38x, 17 + 12 * s38x] : List Nat)[l2.toNatClampNeg]? = some (15 + 12 * s38x + 2 * p43x)) (hq : zq S 50 [.ref (15 + 12 * s38x + 2 * p43x), .int l3] I J (some (.int v5)) I6 J7) : zd S 14 30 [some (.ref 0), some (.int l1), some (.int l2), some (.int l3)] [] I J k = zd S 14 48 [some (.ref 0), some (.int l1), some (.int l2), some (.int l3)] [.int v5] I6 J7 k := by
  refine (tt_f rfl).trans ?_
  refine (tt_al rfl).trans ?_
  refine (tt_f rfl).trans ?_
  refine (tt_gr rfl rfl).trans ?_
  refine (tt_f rfl).trans ?_
  refine (tt_gr rfl rfl).trans ?_
  refine (tt_f rfl).trans ?_
  refine (tt_il rfl).trans ?_
  refine (tt_f rfl).trans ?_
  refine (tt_gq rfl hi1 ha2).trans ?_
  refine (tt_f rfl).trans ?_
  refine (tt_gr (shS hs38x) rfl).trans ?_
  refine (tt_f rfl).trans ?_
  refine (tt_il rfl).trans ?_
  refine (tt_f rfl).trans ?_
  refine (tt_gq (shS7 hs38x) hi3 ha4).trans ?_
  refine (tt_f rfl).trans ?_
  refine (tt_il rfl).trans ?_
  exact tt_cv (As := [.int l3]) rfl hb.1 hb.2 rfl rfl rfl rfl (shP hs38x hp43x) hq
theorem B14_48 {l1 : Int32} {l2 : Int32} {l3 : Int32} {t0 : Int32}  : zd S 14 48 [some (.ref 0), some (.int l1), some (.int l2), some (.int l3)] [.int t0] I J k = some ((some (.int t0)), mk I J, k) := by
  exact tt_r1 rfl rfl
/-! 15: EditionGrid.cell -/
theorem B15_0 {l1 : Int32} {l2 : Int32} {l3 : Int32} {v1 : Int32} {I2 : zI} {J3 : zJ} (hb : Nat.ble k.1 (mBu 15).1 = true ∧ Nat.ble k.2 (mBu 15).2 = true) (hq : zq S 82 [.ref 70, .int l1, .int l2, .int l3] I J (some (.int v1)) I2 J3) : zd S 15 0 [some (.ref 0), some (.int l1), some (.int l2), some (.int l3)] [] I J k = zd S 15 13 [some (.ref 0), some (.int l1), some (.int l2), some (.int l3)] [.int v1] I2 J3 k := by
  refine (tt_f rfl).trans ?_
  refine (tt_al rfl).trans ?_
  refine (tt_f rfl).trans ?_
  refine (tt_gr rfl rfl).trans ?_
  refine (tt_f rfl).trans ?_
  refine (tt_gr rfl rfl).trans ?_
  refine (tt_f rfl).trans ?_
  refine (tt_il rfl).trans ?_
  refine (tt_f rfl).trans ?_
  refine (tt_il rfl).trans ?_
  refine (tt_f rfl).trans ?_
  refine (tt_il rfl).trans ?_
  exact tt_cv (As := [.int l1, .int l2, .int l3]) rfl hb.1 hb.2 rfl rfl rfl rfl rfl hq
theorem B15_13 {l1 : Int32} {l2 : Int32} {l3 : Int32} {t0 : Int32}  : zd S 15 13 [some (.ref 0), some (.int l1), some (.int l2), some (.int l3)] [.int t0] I J k = if t0 = 0 then zd S 15 32 [some (.ref 0), some (.int l1), some (.int l2), some (.int l3)] [] I J k else zd S 15 16 [some (.ref 0), some (.int l1), some (.int l2), some (.int l3)] [] I J k := by
  refine (tt_f rfl).trans ?_
  exact tt_f1 (p := fun x => x = 0) inferInstance rfl
theorem B15_16 {l1 : Int32} {l2 : Int32} {l3 : Int32} {v1 : Int32} {I2 : zI} {J3 : zJ} (hb : Nat.ble k.1 (mBu 15).1 = true ∧ Nat.ble k.2 (mBu 15).2 = true) (hq : zq S 83 [.ref 70, .int l1, .int l2, .int l3] I J (some (.int v1)) I2 J3) : zd S 15 16 [some (.ref 0), some (.int l1), some (.int l2), some (.int l3)] [] I J k = zd S 15 29 [some (.ref 0), some (.int l1), some (.int l2), some (.int l3)] [.int v1] I2 J3 k := by
  refine (tt_f rfl).trans ?_
  refine (tt_al rfl).trans ?_
  refine (tt_f rfl).trans ?_
  refine (tt_gr rfl rfl).trans ?_
  refine (tt_f rfl).trans ?_
  refine (tt_gr rfl rfl).trans ?_
  refine (tt_f rfl).trans ?_
  refine (tt_il rfl).trans ?_
  refine (tt_f rfl).trans ?_
  refine (tt_il rfl).trans ?_
  refine (tt_f rfl).trans ?_
  refine (tt_il rfl).trans ?_
  exact tt_cv (As := [.int l1, .int l2, .int l3]) rfl hb.1 hb.2 rfl rfl rfl rfl rfl hq
theorem B15_29 {l1 : Int32} {l2 : Int32} {l3 : Int32} {t0 : Int32}  : zd S 15 29 [some (.ref 0), some (.int l1), some (.int l2), some (.int l3)] [.int t0] I J k = some ((some (.int t0)), mk I J, k) := by
  refine (tt_f rfl).trans ?_
  refine tt_go.trans ?_
  exact tt_r1 rfl rfl
theorem B15_32 {l1 : Int32} {l2 : Int32} {l3 : Int32}  : zd S 15 32 [some (.ref 0), some (.int l1), some (.int l2), some (.int l3)] [] I J k = some ((some (.int (-1))), mk I J, k) := by
  refine (tt_f rfl).trans ?_
  refine tt_c.trans ?_
  exact tt_r1 rfl rfl
/-! 16: EditionGrid.ink -/
theorem B16_0 {l1 : Int32} {l2 : Int32} {l3 : Int32} {l4 : Int32} {v1 : Int32} {I2 : zI} {J3 : zJ} (hb : Nat.ble k.1 (mBu 16).1 = true ∧ Nat.ble k.2 (mBu 16).2 = true) (hq : zq S 82 [.ref 70, .int l1, .int l2, .int l3] I J (some (.int v1)) I2 J3) : zd S 16 0 [some (.ref 0), some (.int l1), some (.int l2), some (.int l3), some (.int l4), none, none] [] I J k = zd S 16 13 [some (.ref 0), some (.int l1), some (.int l2), some (.int l3), some (.int l4), none, none] [.int v1] I2 J3 k := by
  refine (tt_f rfl).trans ?_
  refine (tt_al rfl).trans ?_
  refine (tt_f rfl).trans ?_
  refine (tt_gr rfl rfl).trans ?_
  refine (tt_f rfl).trans ?_
  refine (tt_gr rfl rfl).trans ?_
  refine (tt_f rfl).trans ?_
  refine (tt_il rfl).trans ?_
  refine (tt_f rfl).trans ?_
  refine (tt_il rfl).trans ?_
  refine (tt_f rfl).trans ?_
  refine (tt_il rfl).trans ?_
  exact tt_cv (As := [.int l1, .int l2, .int l3]) rfl hb.1 hb.2 rfl rfl rfl rfl rfl hq
theorem B16_13 {l1 : Int32} {l2 : Int32} {l3 : Int32} {l4 : Int32} {t0 : Int32}  : zd S 16 13 [some (.ref 0), some (.int l1), some (.int l2), some (.int l3), some (.int l4), none, none] [.int t0] I J k = if t0 = 0 then zd S 16 30 [some (.ref 0), some (.int l1), some (.int l2), some (.int l3), some (.int l4), none, none] [] I J k else zd S 16 16 [some (.ref 0), some (.int l1), some (.int l2), some (.int l3), some (.int l4), none, none] [] I J k := by
  refine (tt_f rfl).trans ?_
  exact tt_f1 (p := fun x => x = 0) inferInstance rfl
theorem B16_16 {l1 : Int32} {l2 : Int32} {l3 : Int32} {l4 : Int32}  : zd S 16 16 [some (.ref 0), some (.int l1), some (.int l2), some (.int l3), some (.int l4), none, none] [] I J k = if l4 < 0 then zd S 16 30 [some (.ref 0), some (.int l1), some (.int l2), some (.int l3), some (.int l4), none, none] [] I J k else zd S 16 21 [some (.ref 0), some (.int l1), some (.int l2), some (.int l3), some (.int l4), none, none] [] I J k := by
  refine (tt_f rfl).trans ?_
  refine (tt_il rfl).trans ?_
  refine (tt_f rfl).trans ?_
  exact tt_f1 (p := fun x => x < 0) inferInstance rfl
theorem B16_21 {l1 : Int32} {l2 : Int32} {l3 : Int32} {l4 : Int32}  : zd S 16 21 [some (.ref 0), some (.int l1), some (.int l2), some (.int l3), some (.int l4), none, none] [] I J k = if l4 < (I 0 0) then zd S 16 32 [some (.ref 0), some (.int l1), some (.int l2), some (.int l3), some (.int l4), none, none] [] I J k else zd S 16 30 [some (.ref 0), some (.int l1), some (.int l2), some (.int l3), some (.int l4), none, none] [] I J k := by
  refine (tt_f rfl).trans ?_
  refine (tt_il rfl).trans ?_
  refine (tt_f rfl).trans ?_
  refine (tt_al rfl).trans ?_
  refine (tt_f rfl).trans ?_
  refine (tt_gi rfl rfl).trans ?_
  refine (tt_f rfl).trans ?_
  exact tt_f2 (p := fun x y => x < y) inferInstance rfl
theorem B16_30 {l1 : Int32} {l2 : Int32} {l3 : Int32} {l4 : Int32}  : zd S 16 30 [some (.ref 0), some (.int l1), some (.int l2), some (.int l3), some (.int l4), none, none] [] I J k = some ((some (.int (-1))), mk I J, k) := by
  refine (tt_fk rfl rfl).trans ?_
  refine tt_c.trans ?_
  exact tt_r1 rfl rfl
theorem B16_32 {l1 : Int32} {l2 : Int32} {l3 : Int32} {l4 : Int32} {v1 : Int32} {I2 : zI} {J3 : zJ} (hb : Nat.ble k.1 (mBu 16).1 = true ∧ Nat.ble k.2 (mBu 16).2 = true) (hq : zq S 83 [.ref 70, .int l1, .int l2, .int l3] I J (some (.int v1)) I2 J3) : zd S 16 32 [some (.ref 0), some (.int l1), some (.int l2), some (.int l3), some (.int l4), none, none] [] I J k = zd S 16 45 [some (.ref 0), some (.int l1), some (.int l2), some (.int l3), some (.int l4), none, none] [.int v1] I2 J3 k := by
  refine (tt_f rfl).trans ?_
  refine (tt_al rfl).trans ?_
  refine (tt_f rfl).trans ?_
  refine (tt_gr rfl rfl).trans ?_
  refine (tt_f rfl).trans ?_
  refine (tt_gr rfl rfl).trans ?_
  refine (tt_f rfl).trans ?_
  refine (tt_il rfl).trans ?_
  refine (tt_f rfl).trans ?_
  refine (tt_il rfl).trans ?_
  refine (tt_f rfl).trans ?_
  refine (tt_il rfl).trans ?_
  exact tt_cv (As := [.int l1, .int l2, .int l3]) rfl hb.1 hb.2 rfl rfl rfl rfl rfl hq
theorem B16_45 {l1 : Int32} {l2 : Int32} {l3 : Int32} {l4 : Int32} {t0 : Int32} {v1 : Int32} {I2 : zI} {J3 : zJ} (hb : Nat.ble k.1 (mBu 16).1 = true ∧ Nat.ble k.2 (mBu 16).2 = true) (hq : zq S 17 [.ref 0, .int ((t0 / 100) - 1)] I J (some (.int v1)) I2 J3) : zd S 16 45 [some (.ref 0), some (.int l1), some (.int l2), some (.int l3), some (.int l4), none, none] [.int t0] I J k = zd S 16 62 [some (.ref 0), some (.int l1), some (.int l2), some (.int l3), some (.int l4), some (.int t0), some (.int ((t0 / 100) - 1))] [.int v1] I2 J3 k := by
  refine (tt_f rfl).trans ?_
  refine (tt_is rfl rfl).trans ?_
  refine (tt_f rfl).trans ?_
  refine (tt_il rfl).trans ?_
  refine (tt_f rfl).trans ?_
  refine tt_c.trans ?_
  refine (tt_f rfl).trans ?_
  refine (tt_bz (by decide)).trans ?_
  refine (tt_f rfl).trans ?_
  refine tt_c.trans ?_
  refine (tt_f rfl).trans ?_
  refine tt_bi.trans ?_
  refine (tt_f rfl).trans ?_
  refine (tt_is rfl rfl).trans ?_
  refine (tt_f rfl).trans ?_
  refine (tt_al rfl).trans ?_
  refine (tt_f rfl).trans ?_
  refine (tt_il rfl).trans ?_
  exact tt_cv (As := [.int ((t0 / 100) - 1)]) rfl hb.1 hb.2 rfl rfl rfl rfl rfl hq
theorem B16_62 {l1 : Int32} {l2 : Int32} {l3 : Int32} {l4 : Int32} {l5 : Int32} {l6 : Int32} {t0 : Int32}  : zd S 16 62 [some (.ref 0), some (.int l1), some (.int l2), some (.int l3), some (.int l4), some (.int l5), some (.int l6)] [.int t0] I J k = if ¬ t0 = 0 then zd S 16 67 [some (.ref 0), some (.int l1), some (.int l2), some (.int l3), some (.int l4), some (.int l5), some (.int l6)] [] I J k else zd S 16 65 [some (.ref 0), some (.int l1), some (.int l2), some (.int l3), some (.int l4), some (.int l5), some (.int l6)] [] I J k := by
  refine (tt_f rfl).trans ?_
  exact tt_f1 (p := fun x => ¬ x = 0) inferInstance rfl
theorem B16_65 {l1 : Int32} {l2 : Int32} {l3 : Int32} {l4 : Int32} {l5 : Int32} {l6 : Int32}  : zd S 16 65 [some (.ref 0), some (.int l1), some (.int l2), some (.int l3), some (.int l4), some (.int l5), some (.int l6)] [] I J k = some ((some (.int 0)), mk I J, k) := by
  refine (tt_f rfl).trans ?_
  refine tt_c.trans ?_
  exact tt_r1 rfl rfl
theorem B16_67 {l1 : Int32} {l2 : Int32} {l3 : Int32} {l4 : Int32} {l5 : Int32} {l6 : Int32} {s80x : Nat} {v3 : Int32} {I4 : zI} {J5 : zJ} (hb : Nat.ble k.1 (mBu 16).1 = true ∧ Nat.ble k.2 (mBu 16).2 = true) (hs80x : s80x < 4) (hi1 : zin l6 4 = true) (ha2 : ([7, 19, 31, 43] : List Nat)[l6.toNatClampNeg]? = some (7 + 12 * s80x)) (hq : zq S 40 [.ref 73, .ref (7 + 12 * s80x), .int (l5 - l5 / 100 * 100), .int l2, .int l4] I J (some (.int v3)) I4 J5) : zd S 16 67 [some (.ref 0), some (.int l1), some (.int l2), some (.int l3), some (.int l4), some (.int l5), some (.int l6)] [] I J k = zd S 16 92 [some (.ref 0), some (.int l1), some (.int l2), some (.int l3), some (.int l4), some (.int l5), some (.int l6)] [.int v3] I4 J5 k := by
  refine (tt_f rfl).trans ?_
  refine (tt_al rfl).trans ?_
  refine (tt_f rfl).trans ?_
  refine (tt_gr rfl rfl).trans ?_
  refine (tt_f rfl).trans ?_
  refine (tt_al rfl).trans ?_
  refine (tt_f rfl).trans ?_
  refine (tt_gr rfl rfl).trans ?_
  refine (tt_f rfl).trans ?_
  refine (tt_gr rfl rfl).trans ?_
  refine (tt_f rfl).trans ?_
  refine (tt_il rfl).trans ?_
  refine (tt_f rfl).trans ?_
  refine (tt_gq rfl hi1 ha2).trans ?_
  refine (tt_f rfl).trans ?_
  refine (tt_il rfl).trans ?_
  refine (tt_f rfl).trans ?_
  refine tt_c.trans ?_
  refine (tt_f rfl).trans ?_
  refine (tt_bz (by decide)).trans ?_
  refine (tt_f rfl).trans ?_
  refine (tt_il rfl).trans ?_
  refine (tt_f rfl).trans ?_
  refine (tt_il rfl).trans ?_
  exact tt_cv (As := [.ref (7 + 12 * s80x), .int (l5 - l5 / 100 * 100), .int l2, .int l4]) rfl hb.1 hb.2 rfl rfl rfl rfl rfl hq
theorem B16_92 {l1 : Int32} {l2 : Int32} {l3 : Int32} {l4 : Int32} {l5 : Int32} {l6 : Int32} {t0 : Int32}  : zd S 16 92 [some (.ref 0), some (.int l1), some (.int l2), some (.int l3), some (.int l4), some (.int l5), some (.int l6)] [.int t0] I J k = some ((some (.int t0)), mk I J, k) := by
  exact tt_r1 rfl rfl
/-! 17: EditionGrid.isPlanned -/
theorem B17_0 {l1 : Int32}  : zd S 17 0 [some (.ref 0), some (.int l1)] [] I J k = if (I 0 9) = 0 then zd S 17 26 [some (.ref 0), some (.int l1)] [] I J k else zd S 17 7 [some (.ref 0), some (.int l1)] [] I J k := by
  refine (tt_f rfl).trans ?_
  refine (tt_al rfl).trans ?_
  refine (tt_f rfl).trans ?_
  refine (tt_gi rfl rfl).trans ?_
  refine (tt_f rfl).trans ?_
  exact tt_f1 (p := fun x => x = 0) inferInstance rfl
theorem B17_7 {l1 : Int32}  : zd S 17 7 [some (.ref 0), some (.int l1)] [] I J k = if l1 < 0 then zd S 17 26 [some (.ref 0), some (.int l1)] [] I J k else zd S 17 11 [some (.ref 0), some (.int l1)] [] I J k := by
  refine (tt_f rfl).trans ?_
  refine (tt_il rfl).trans ?_
  refine (tt_f rfl).trans ?_
  exact tt_f1 (p := fun x => x < 0) inferInstance rfl
theorem B17_11 {l1 : Int32}  : zd S 17 11 [some (.ref 0), some (.int l1)] [] I J k = if (I 4 4) ≤ l1 then zd S 17 26 [some (.ref 0), some (.int l1)] [] I J k else zd S 17 22 [some (.ref 0), some (.int l1)] [] I J k := by
  refine (tt_f rfl).trans ?_
  refine (tt_il rfl).trans ?_
  refine (tt_f rfl).trans ?_
  refine (tt_al rfl).trans ?_
  refine (tt_f rfl).trans ?_
  refine (tt_gr rfl rfl).trans ?_
  refine (tt_f rfl).trans ?_
  refine (tt_gi rfl rfl).trans ?_
  refine (tt_f rfl).trans ?_
  exact tt_f2 (p := fun x y => y ≤ x) inferInstance rfl
theorem B17_22 {l1 : Int32} (hz : zrt 2 (.int 1) = true) : zd S 17 22 [some (.ref 0), some (.int l1)] [] I J k = some ((some (.int 1)), mk I J, k) := by
  refine (tt_f rfl).trans ?_
  refine tt_c.trans ?_
  refine (tt_f rfl).trans ?_
  refine tt_go.trans ?_
  exact tt_r1 rfl hz
theorem B17_26 {l1 : Int32} (hz : zrt 2 (.int 0) = true) : zd S 17 26 [some (.ref 0), some (.int l1)] [] I J k = some ((some (.int 0)), mk I J, k) := by
  refine (tt_fk rfl rfl).trans ?_
  refine tt_c.trans ?_
  exact tt_r1 rfl hz
/-! 18: EditionGrid.within -/
theorem B18_0 {l0 : Int32} {l1 : Int32} {l2 : Int32} (hb : Nat.ble k.1 (mBu 18).1 = true ∧ Nat.ble k.2 (mBu 18).2 = true)  : zd S 18 0 [some (.int l0), some (.int l1), some (.int l2)] [] I J k = some ((some (.int (if l1 < (if l0 < l2 then l0 else l2) then (if l0 < l2 then l0 else l2) else l1))), mk I J, k) := by
  refine (tt_f rfl).trans ?_
  refine (tt_il rfl).trans ?_
  refine (tt_f rfl).trans ?_
  refine (tt_il rfl).trans ?_
  refine (tt_f rfl).trans ?_
  refine (tt_il rfl).trans ?_
  refine (tt_f rfl).trans ?_
  refine (tt_mm rfl hb.1 hb.2).trans ?_
  refine (tt_f rfl).trans ?_
  refine (tt_mm rfl hb.1 hb.2).trans ?_
  exact tt_r1 rfl rfl
/-! 19: EditionGrid.isLetter -/
theorem B19_0 {l0 : Int32}  : zd S 19 0 [some (.int l0)] [] I J k = if l0 < 97 then zd S 19 16 [some (.int l0)] [] I J k else zd S 19 6 [some (.int l0)] [] I J k := by
  refine (tt_f rfl).trans ?_
  refine (tt_il rfl).trans ?_
  refine (tt_f rfl).trans ?_
  refine tt_c.trans ?_
  refine (tt_f rfl).trans ?_
  exact tt_f2 (p := fun x y => x < y) inferInstance rfl
theorem B19_6 {l0 : Int32}  : zd S 19 6 [some (.int l0)] [] I J k = if 122 < l0 then zd S 19 16 [some (.int l0)] [] I J k else zd S 19 12 [some (.int l0)] [] I J k := by
  refine (tt_f rfl).trans ?_
  refine (tt_il rfl).trans ?_
  refine (tt_f rfl).trans ?_
  refine tt_c.trans ?_
  refine (tt_f rfl).trans ?_
  exact tt_f2 (p := fun x y => y < x) inferInstance rfl
theorem B19_12 {l0 : Int32} (hz : zrt 2 (.int 1) = true) : zd S 19 12 [some (.int l0)] [] I J k = some ((some (.int 1)), mk I J, k) := by
  refine (tt_f rfl).trans ?_
  refine tt_c.trans ?_
  refine (tt_f rfl).trans ?_
  refine tt_go.trans ?_
  exact tt_r1 rfl hz
theorem B19_16 {l0 : Int32} (hz : zrt 2 (.int 0) = true) : zd S 19 16 [some (.int l0)] [] I J k = some ((some (.int 0)), mk I J, k) := by
  refine (tt_fk rfl rfl).trans ?_
  refine tt_c.trans ?_
  exact tt_r1 rfl hz
/-! 20: EditionGrid.isDigit -/
theorem B20_0 {l0 : Int32} {l1 : Int32}  : zd S 20 0 [some (.int l0), some (.int l1)] [] I J k = if l0 < (48 + l1) then zd S 20 18 [some (.int l0), some (.int l1)] [] I J k else zd S 20 8 [some (.int l0), some (.int l1)] [] I J k := by
  refine (tt_f rfl).trans ?_
  refine (tt_il rfl).trans ?_
  refine (tt_f rfl).trans ?_
  refine tt_c.trans ?_
  refine (tt_f rfl).trans ?_
  refine (tt_il rfl).trans ?_
  refine (tt_f rfl).trans ?_
  refine tt_bi.trans ?_
  refine (tt_f rfl).trans ?_
  exact tt_f2 (p := fun x y => x < y) inferInstance rfl
theorem B20_8 {l0 : Int32} {l1 : Int32}  : zd S 20 8 [some (.int l0), some (.int l1)] [] I J k = if 57 < l0 then zd S 20 18 [some (.int l0), some (.int l1)] [] I J k else zd S 20 14 [some (.int l0), some (.int l1)] [] I J k := by
  refine (tt_f rfl).trans ?_
  refine (tt_il rfl).trans ?_
  refine (tt_f rfl).trans ?_
  refine tt_c.trans ?_
  refine (tt_f rfl).trans ?_
  exact tt_f2 (p := fun x y => y < x) inferInstance rfl
theorem B20_14 {l0 : Int32} {l1 : Int32} (hz : zrt 2 (.int 1) = true) : zd S 20 14 [some (.int l0), some (.int l1)] [] I J k = some ((some (.int 1)), mk I J, k) := by
  refine (tt_f rfl).trans ?_
  refine tt_c.trans ?_
  refine (tt_f rfl).trans ?_
  refine tt_go.trans ?_
  exact tt_r1 rfl hz
theorem B20_18 {l0 : Int32} {l1 : Int32} (hz : zrt 2 (.int 0) = true) : zd S 20 18 [some (.int l0), some (.int l1)] [] I J k = some ((some (.int 0)), mk I J, k) := by
  refine (tt_fk rfl rfl).trans ?_
  refine tt_c.trans ?_
  exact tt_r1 rfl hz
/-! 21: EditionGrid.byteOf -/
theorem B21_0 {l0 : Int64} {l2 : Int32} {l3 : Int32}  : zd S 21 0 [some (.long l0), none, some (.int l2), some (.int l3)] [] I J k = some ((some (.int ((((l0).toUInt64 >>> (((8 * ((l2 - 1) - l3)) : Int32).toInt64.toUInt64 &&& Int64.toUInt64 63)).toInt64).toInt32 &&& 255))), mk I J, k) := by
  refine (tt_f rfl).trans ?_
  refine (tt_ll rfl).trans ?_
  refine (tt_f rfl).trans ?_
  refine tt_c.trans ?_
  refine (tt_f rfl).trans ?_
  refine (tt_il rfl).trans ?_
  refine (tt_f rfl).trans ?_
  refine tt_c.trans ?_
  refine (tt_f rfl).trans ?_
  refine tt_bi.trans ?_
  refine (tt_f rfl).trans ?_
  refine (tt_il rfl).trans ?_
  refine (tt_f rfl).trans ?_
  refine tt_bi.trans ?_
  refine (tt_f rfl).trans ?_
  refine tt_bi.trans ?_
  refine (tt_f rfl).trans ?_
  refine tt_sl.trans ?_
  refine (tt_f rfl).trans ?_
  refine tt_l2i.trans ?_
  refine (tt_f rfl).trans ?_
  refine tt_c.trans ?_
  refine (tt_f rfl).trans ?_
  refine tt_bi.trans ?_
  exact tt_r1 rfl rfl
/-! 22: EditionGrid.hasBit -/
theorem B22_0 {l0 : Int64} {l2 : Int32}  : zd S 22 0 [some (.long l0), none, some (.int l2)] [] I J k = if (lg_cmp (((l0).toUInt64 >>> (l2.toInt64.toUInt64 &&& Int64.toUInt64 63)).toInt64 &&& 1) 0) = 0 then zd S 22 14 [some (.long l0), none, some (.int l2)] [] I J k else zd S 22 10 [some (.long l0), none, some (.int l2)] [] I J k := by
  refine (tt_f rfl).trans ?_
  refine (tt_ll rfl).trans ?_
  refine (tt_f rfl).trans ?_
  refine (tt_il rfl).trans ?_
  refine (tt_f rfl).trans ?_
  refine tt_sl.trans ?_
  refine (tt_f rfl).trans ?_
  refine tt_c.trans ?_
  refine (tt_f rfl).trans ?_
  refine tt_bl.trans ?_
  refine (tt_f rfl).trans ?_
  refine tt_c.trans ?_
  refine (tt_f rfl).trans ?_
  refine tt_cl.trans ?_
  refine (tt_f rfl).trans ?_
  exact tt_f1 (p := fun x => x = 0) inferInstance rfl
theorem B22_10 {l0 : Int64} {l2 : Int32} (hz : zrt 2 (.int 1) = true) : zd S 22 10 [some (.long l0), none, some (.int l2)] [] I J k = some ((some (.int 1)), mk I J, k) := by
  refine (tt_f rfl).trans ?_
  refine tt_c.trans ?_
  refine (tt_f rfl).trans ?_
  refine tt_go.trans ?_
  exact tt_r1 rfl hz
theorem B22_14 {l0 : Int64} {l2 : Int32} (hz : zrt 2 (.int 0) = true) : zd S 22 14 [some (.long l0), none, some (.int l2)] [] I J k = some ((some (.int 0)), mk I J, k) := by
  refine (tt_f rfl).trans ?_
  refine tt_c.trans ?_
  exact tt_r1 rfl hz
/-! 24: Breaker.breakStory -/
theorem B24_0 {s1 : Nat} {I1 : zI} {J2 : zJ} (hb : Nat.ble k.1 (mBu 24).1 = true ∧ Nat.ble k.2 (mBu 24).2 = true) (hs1 : s1 < 4) (hq : zq S 90 [.ref (7 + 12 * s1)] I J none I1 J2) : zd S 24 0 [some (.ref 55), some (.ref (7 + 12 * s1)), some (.ref 5), some (.ref 1), none, none] [] I J k = zd S 24 4 [some (.ref 55), some (.ref (7 + 12 * s1)), some (.ref 5), some (.ref 1), none, none] [] I1 J2 k := by
  refine (tt_f rfl).trans ?_
  refine (tt_al rfl).trans ?_
  exact tt_cv (As := []) rfl hb.1 hb.2 rfl rfl rfl rfl (shS hs1) hq
theorem B24_4 {s1 : Nat} (hs1 : s1 < 4) : zd S 24 4 [some (.ref 55), some (.ref (7 + 12 * s1)), some (.ref 5), some (.ref 1), none, none] [] I J k = zd S 24 7 [some (.ref 55), some (.ref (7 + 12 * s1)), some (.ref 5), some (.ref 1), some (.int 0), none] [] I J k := by
  refine (tt_f rfl).trans ?_
  refine tt_c.trans ?_
  refine (tt_f rfl).trans ?_
  refine (tt_is rfl rfl).trans ?_
  rfl
theorem B24_7 {l4 : Int32} {s1 : Nat} (hs1 : s1 < 4) : zd S 24 7 [some (.ref 55), some (.ref (7 + 12 * s1)), some (.ref 5), some (.ref 1), some (.int l4), none] [] I J k = if (I (7 + 12 * s1) 11) ≤ l4 then zd S 24 103 [some (.ref 55), some (.ref (7 + 12 * s1)), some (.ref 5), some (.ref 1), some (.int l4), none] [] I J k else zd S 24 16 [some (.ref 55), some (.ref (7 + 12 * s1)), some (.ref 5), some (.ref 1), some (.int l4), none] [] I J k := by
  refine (tt_fk rfl rfl).trans ?_
  refine (tt_il rfl).trans ?_
  refine (tt_f rfl).trans ?_
  refine (tt_al rfl).trans ?_
  refine (tt_f rfl).trans ?_
  refine (tt_gi (shS hs1) rfl).trans ?_
  refine (tt_f rfl).trans ?_
  exact tt_f2 (p := fun x y => y ≤ x) inferInstance rfl
theorem B24_16 {l4 : Int32} {s1 : Nat} (hb : Nat.ble k.1 (mBu 24).1 = true ∧ Nat.ble k.2 (mBu 24).2 = true) (hs1 : s1 < 4) (hi1 : zin l4 4 = true) (hi2 : zin l4 4 = true) : zd S 24 16 [some (.ref 55), some (.ref (7 + 12 * s1)), some (.ref 5), some (.ref 1), some (.int l4), none] [] I J k = zd S 24 45 [some (.ref 55), some (.ref (7 + 12 * s1)), some (.ref 5), some (.ref 1), some (.int l4), some (.int (I (8 + 12 * s1) l4.toNatClampNeg))] [] (u2 I 55 6 (if 207 < ((I (9 + 12 * s1) l4.toNatClampNeg) - (I (8 + 12 * s1) l4.toNatClampNeg)) then 207 else ((I (9 + 12 * s1) l4.toNatClampNeg) - (I (8 + 12 * s1) l4.toNatClampNeg)))) J k := by
  refine (tt_f rfl).trans ?_
  refine (tt_al rfl).trans ?_
  refine (tt_f rfl).trans ?_
  refine (tt_gr (shS hs1) rfl).trans ?_
  refine (tt_f rfl).trans ?_
  refine (tt_il rfl).trans ?_
  refine (tt_f rfl).trans ?_
  refine (tt_ga (shS1 hs1) rfl hi1).trans ?_
  refine (tt_f rfl).trans ?_
  refine (tt_is rfl rfl).trans ?_
  refine (tt_f rfl).trans ?_
  refine (tt_al rfl).trans ?_
  refine (tt_f rfl).trans ?_
  refine (tt_al rfl).trans ?_
  refine (tt_f rfl).trans ?_
  refine (tt_gr (shS hs1) rfl).trans ?_
  refine (tt_f rfl).trans ?_
  refine (tt_il rfl).trans ?_
  refine (tt_f rfl).trans ?_
  refine (tt_ga (shS2 hs1) rfl hi2).trans ?_
  refine (tt_f rfl).trans ?_
  refine (tt_il rfl).trans ?_
  refine (tt_f rfl).trans ?_
  refine tt_bi.trans ?_
  refine (tt_f rfl).trans ?_
  refine tt_c.trans ?_
  refine (tt_f rfl).trans ?_
  refine (tt_mm rfl hb.1 hb.2).trans ?_
  refine (tt_f rfl).trans ?_
  exact tt_pi rfl rfl rfl
theorem B24_45 {l4 : Int32} {l5 : Int32} {s1 : Nat} {I1 : zI} {J2 : zJ} (hb : Nat.ble k.1 (mBu 24).1 = true ∧ Nat.ble k.2 (mBu 24).2 = true) (hs1 : s1 < 4) (hq : zq S 25 [.ref 55, .ref 5, .int l5, .ref 1] I J none I1 J2) : zd S 24 45 [some (.ref 55), some (.ref (7 + 12 * s1)), some (.ref 5), some (.ref 1), some (.int l4), some (.int l5)] [] I J k = zd S 24 53 [some (.ref 55), some (.ref (7 + 12 * s1)), some (.ref 5), some (.ref 1), some (.int l4), some (.int l5)] [] I1 J2 k := by
  refine (tt_f rfl).trans ?_
  refine (tt_al rfl).trans ?_
  refine (tt_f rfl).trans ?_
  refine (tt_al rfl).trans ?_
  refine (tt_f rfl).trans ?_
  refine (tt_il rfl).trans ?_
  refine (tt_f rfl).trans ?_
  refine (tt_al rfl).trans ?_
  exact tt_cv (As := [.ref 5, .int l5, .ref 1]) rfl hb.1 hb.2 rfl rfl rfl rfl rfl hq
theorem B24_53 {l4 : Int32} {l5 : Int32} {s1 : Nat} {I1 : zI} {J2 : zJ} (hb : Nat.ble k.1 (mBu 24).1 = true ∧ Nat.ble k.2 (mBu 24).2 = true) (hs1 : s1 < 4) (hq : zq S 26 [.ref 55, .ref 5, .int l5] I J none I1 J2) : zd S 24 53 [some (.ref 55), some (.ref (7 + 12 * s1)), some (.ref 5), some (.ref 1), some (.int l4), some (.int l5)] [] I J k = zd S 24 60 [some (.ref 55), some (.ref (7 + 12 * s1)), some (.ref 5), some (.ref 1), some (.int l4), some (.int l5)] [] I1 J2 k := by
  refine (tt_f rfl).trans ?_
  refine (tt_al rfl).trans ?_
  refine (tt_f rfl).trans ?_
  refine (tt_al rfl).trans ?_
  refine (tt_f rfl).trans ?_
  refine (tt_il rfl).trans ?_
  exact tt_cv (As := [.ref 5, .int l5]) rfl hb.1 hb.2 rfl rfl rfl rfl rfl hq
theorem B24_60 {l4 : Int32} {l5 : Int32} {s1 : Nat} {v1 : Int32} {I2 : zI} {J3 : zJ} (hb : Nat.ble k.1 (mBu 24).1 = true ∧ Nat.ble k.2 (mBu 24).2 = true) (hs1 : s1 < 4) (hq : zq S 28 [.ref 55] I J (some (.int v1)) I2 J3) : zd S 24 60 [some (.ref 55), some (.ref (7 + 12 * s1)), some (.ref 5), some (.ref 1), some (.int l4), some (.int l5)] [] I J k = zd S 24 70 [some (.ref 55), some (.ref (7 + 12 * s1)), some (.ref 5), some (.ref 1), some (.int l4), some (.int l5)] [.int v1, .int l4, .ref (10 + 12 * s1)] I2 J3 k := by
  refine (tt_f rfl).trans ?_
  refine (tt_al rfl).trans ?_
  refine (tt_f rfl).trans ?_
  refine (tt_gr (shS hs1) rfl).trans ?_
  refine (tt_f rfl).trans ?_
  refine (tt_il rfl).trans ?_
  refine (tt_f rfl).trans ?_
  refine (tt_al rfl).trans ?_
  exact tt_cv (As := []) rfl hb.1 hb.2 rfl rfl rfl rfl rfl hq
theorem B24_70 {l4 : Int32} {l5 : Int32} {t1 : Int32} {t2 : Int32} {s1 : Nat} (hs1 : s1 < 4) (hi1 : zin t1 4 = true) : zd S 24 70 [some (.ref 55), some (.ref (7 + 12 * s1)), some (.ref 5), some (.ref 1), some (.int l4), some (.int l5)] [.int t2, .int t1, .ref (10 + 12 * s1)] I J k = zd S 24 71 [some (.ref 55), some (.ref (7 + 12 * s1)), some (.ref 5), some (.ref 1), some (.int l4), some (.int l5)] [] (u2 I (10 + 12 * s1) t1.toNatClampNeg t2) J k := by
  refine (tt_f rfl).trans ?_
  exact tt_pa (shS3 hs1) rfl hi1
theorem B24_71 {l4 : Int32} {l5 : Int32} {s1 : Nat} (hs1 : s1 < 4) (hi1 : zin l4 4 = true) : zd S 24 71 [some (.ref 55), some (.ref (7 + 12 * s1)), some (.ref 5), some (.ref 1), some (.int l4), some (.int l5)] [] I J k = if ¬ (I (10 + 12 * s1) l4.toNatClampNeg) = (-1) then zd S 24 90 [some (.ref 55), some (.ref (7 + 12 * s1)), some (.ref 5), some (.ref 1), some (.int l4), some (.int l5)] [] I J k else zd S 24 82 [some (.ref 55), some (.ref (7 + 12 * s1)), some (.ref 5), some (.ref 1), some (.int l4), some (.int l5)] [] I J k := by
  refine (tt_f rfl).trans ?_
  refine (tt_al rfl).trans ?_
  refine (tt_f rfl).trans ?_
  refine (tt_gr (shS hs1) rfl).trans ?_
  refine (tt_f rfl).trans ?_
  refine (tt_il rfl).trans ?_
  refine (tt_f rfl).trans ?_
  refine (tt_ga (shS3 hs1) rfl hi1).trans ?_
  refine (tt_f rfl).trans ?_
  refine tt_c.trans ?_
  refine (tt_f rfl).trans ?_
  exact tt_f2 (p := fun x y => ¬ x = y) inferInstance rfl
theorem B24_82 {l4 : Int32} {l5 : Int32} {s1 : Nat} (hs1 : s1 < 4) : zd S 24 82 [some (.ref 55), some (.ref (7 + 12 * s1)), some (.ref 5), some (.ref 1), some (.int l4), some (.int l5)] [] I J k = zd S 24 87 [some (.ref 55), some (.ref (7 + 12 * s1)), some (.ref 5), some (.ref 1), some (.int l4), some (.int l5)] [] (u2 I (7 + 12 * s1) 14 1) J k := by
  refine (tt_f rfl).trans ?_
  refine (tt_al rfl).trans ?_
  refine (tt_f rfl).trans ?_
  refine tt_c.trans ?_
  refine (tt_f rfl).trans ?_
  exact tt_pi (shS hs1) rfl rfl
theorem B24_87 {l4 : Int32} {l5 : Int32} {s1 : Nat} (hs1 : s1 < 4) : zd S 24 87 [some (.ref 55), some (.ref (7 + 12 * s1)), some (.ref 5), some (.ref 1), some (.int l4), some (.int l5)] [] I J k = zd S 24 7 [some (.ref 55), some (.ref (7 + 12 * s1)), some (.ref 5), some (.ref 1), some (.int (l4 + 1)), none] [] I J k := by
  refine (tt_f rfl).trans ?_
  refine tt_go.trans ?_
  refine (tt_fk rfl rfl).trans ?_
  refine (tt_in rfl rfl).trans ?_
  refine (tt_f rfl).trans ?_
  refine tt_go.trans ?_
  rfl
theorem B24_90 {l4 : Int32} {l5 : Int32} {s1 : Nat} {I1 : zI} {J2 : zJ} (hb : Nat.ble k.1 (mBu 24).1 = true ∧ Nat.ble k.2 (mBu 24).2 = true) (hs1 : s1 < 4) (hq : zq S 32 [.ref 55, .ref (7 + 12 * s1), .int l5] I J none I1 J2) : zd S 24 90 [some (.ref 55), some (.ref (7 + 12 * s1)), some (.ref 5), some (.ref 1), some (.int l4), some (.int l5)] [] I J k = zd S 24 97 [some (.ref 55), some (.ref (7 + 12 * s1)), some (.ref 5), some (.ref 1), some (.int l4), some (.int l5)] [] I1 J2 k := by
  refine (tt_f rfl).trans ?_
  refine (tt_al rfl).trans ?_
  refine (tt_f rfl).trans ?_
  refine (tt_al rfl).trans ?_
  refine (tt_f rfl).trans ?_
  refine (tt_il rfl).trans ?_
  exact tt_cv (As := [.ref (7 + 12 * s1), .int l5]) rfl hb.1 hb.2 rfl rfl rfl rfl rfl hq
theorem B24_97 {l4 : Int32} {l5 : Int32} {s1 : Nat} (hs1 : s1 < 4) : zd S 24 97 [some (.ref 55), some (.ref (7 + 12 * s1)), some (.ref 5), some (.ref 1), some (.int l4), some (.int l5)] [] I J k = zd S 24 7 [some (.ref 55), some (.ref (7 + 12 * s1)), some (.ref 5), some (.ref 1), some (.int (l4 + 1)), none] [] I J k := by
  refine (tt_fk rfl rfl).trans ?_
  refine (tt_in rfl rfl).trans ?_
  refine (tt_f rfl).trans ?_
  refine tt_go.trans ?_
  rfl
theorem B24_103 {l4 : Int32} {s1 : Nat} (hs1 : s1 < 4) : zd S 24 103 [some (.ref 55), some (.ref (7 + 12 * s1)), some (.ref 5), some (.ref 1), some (.int l4), none] [] I J k = some (none, mk I J, k) := by
  exact tt_rv rfl
/-! 25: Breaker.measureCharacters -/
theorem B25_0 {l2 : Int32}  : zd S 25 0 [some (.ref 55), some (.ref 5), some (.int l2), some (.ref 1), none, none] [] I J k = zd S 25 3 [some (.ref 55), some (.ref 5), some (.int l2), some (.ref 1), some (.int 0), none] [] I J k := by
  refine (tt_f rfl).trans ?_
  refine tt_c.trans ?_
  refine (tt_f rfl).trans ?_
  refine (tt_is rfl rfl).trans ?_
  rfl
theorem B25_3 {l2 : Int32} {l4 : Int32}  : zd S 25 3 [some (.ref 55), some (.ref 5), some (.int l2), some (.ref 1), some (.int l4), none] [] I J k = if (I 55 6) ≤ l4 then zd S 25 62 [some (.ref 55), some (.ref 5), some (.int l2), some (.ref 1), some (.int l4), none] [] I J k else zd S 25 12 [some (.ref 55), some (.ref 5), some (.int l2), some (.ref 1), some (.int l4), none] [] I J k := by
  refine (tt_fk rfl rfl).trans ?_
  refine (tt_il rfl).trans ?_
  refine (tt_f rfl).trans ?_
  refine (tt_al rfl).trans ?_
  refine (tt_f rfl).trans ?_
  refine (tt_gi rfl rfl).trans ?_
  refine (tt_f rfl).trans ?_
  exact tt_f2 (p := fun x y => y ≤ x) inferInstance rfl
theorem B25_12 {l2 : Int32} {l4 : Int32} {v3 : Int32} {I4 : zI} {J5 : zJ} (hb : Nat.ble k.1 (mBu 25).1 = true ∧ Nat.ble k.2 (mBu 25).2 = true) (hi1 : zin (l2 + l4) 480 = true) (hi2 : zin l4 208 = true) (hq : zq S 19 [.int (I 5 (l2 + l4).toNatClampNeg)] I J (some (.int v3)) I4 J5) : zd S 25 12 [some (.ref 55), some (.ref 5), some (.int l2), some (.ref 1), some (.int l4), none] [] I J k = zd S 25 40 [some (.ref 55), some (.ref 5), some (.int l2), some (.ref 1), some (.int l4), some (.int (I 5 (l2 + l4).toNatClampNeg))] [.int v3, .int (I 61 l4.toNatClampNeg), .int (l4 + 1), .ref 61] I4 J5 k := by
  refine (tt_f rfl).trans ?_
  refine (tt_al rfl).trans ?_
  refine (tt_f rfl).trans ?_
  refine (tt_il rfl).trans ?_
  refine (tt_f rfl).trans ?_
  refine (tt_il rfl).trans ?_
  refine (tt_f rfl).trans ?_
  refine tt_bi.trans ?_
  refine (tt_f rfl).trans ?_
  refine (tt_ga rfl rfl hi1).trans ?_
  refine (tt_f rfl).trans ?_
  refine (tt_is rfl rfl).trans ?_
  refine (tt_f rfl).trans ?_
  refine (tt_al rfl).trans ?_
  refine (tt_f rfl).trans ?_
  refine (tt_gr rfl rfl).trans ?_
  refine (tt_f rfl).trans ?_
  refine (tt_il rfl).trans ?_
  refine (tt_f rfl).trans ?_
  refine tt_c.trans ?_
  refine (tt_f rfl).trans ?_
  refine tt_bi.trans ?_
  refine (tt_f rfl).trans ?_
  refine (tt_al rfl).trans ?_
  refine (tt_f rfl).trans ?_
  refine (tt_gr rfl rfl).trans ?_
  refine (tt_f rfl).trans ?_
  refine (tt_il rfl).trans ?_
  refine (tt_f rfl).trans ?_
  refine (tt_ga rfl rfl hi2).trans ?_
  refine (tt_f rfl).trans ?_
  refine (tt_il rfl).trans ?_
  exact tt_cs (vs := [.int (I 5 (l2 + l4).toNatClampNeg)]) rfl hb.1 hb.2 rfl rfl rfl rfl hq
theorem B25_40 {l2 : Int32} {l4 : Int32} {l5 : Int32} {t1 : Int32} {t2 : Int32} {t3 : Int32}  : zd S 25 40 [some (.ref 55), some (.ref 5), some (.int l2), some (.ref 1), some (.int l4), some (.int l5)] [.int t3, .int t2, .int t1, .ref 61] I J k = if t3 = 0 then zd S 25 53 [some (.ref 55), some (.ref 5), some (.int l2), some (.ref 1), some (.int l4), some (.int l5)] [.int t2, .int t1, .ref 61] I J k else zd S 25 43 [some (.ref 55), some (.ref 5), some (.int l2), some (.ref 1), some (.int l4), some (.int l5)] [.int t2, .int t1, .ref 61] I J k := by
  refine (tt_f rfl).trans ?_
  exact tt_f1 (p := fun x => x = 0) inferInstance rfl
theorem B25_43 {l2 : Int32} {l4 : Int32} {l5 : Int32} {t1 : Int32} {t2 : Int32} (hi1 : zin (l5 - 97) 26 = true) (hi2 : zin t1 208 = true) : zd S 25 43 [some (.ref 55), some (.ref 5), some (.int l2), some (.ref 1), some (.int l4), some (.int l5)] [.int t2, .int t1, .ref 61] I J k = zd S 25 56 [some (.ref 55), some (.ref 5), some (.int l2), some (.ref 1), some (.int l4), none] [] (u2 I 61 t1.toNatClampNeg (t2 + (I 1 (l5 - 97).toNatClampNeg))) J k := by
  refine (tt_f rfl).trans ?_
  refine (tt_al rfl).trans ?_
  refine (tt_f rfl).trans ?_
  refine (tt_il rfl).trans ?_
  refine (tt_f rfl).trans ?_
  refine tt_c.trans ?_
  refine (tt_f rfl).trans ?_
  refine tt_bi.trans ?_
  refine (tt_f rfl).trans ?_
  refine (tt_ga rfl rfl hi1).trans ?_
  refine (tt_f rfl).trans ?_
  refine tt_go.trans ?_
  refine (tt_fk rfl rfl).trans ?_
  refine tt_bi.trans ?_
  refine (tt_f rfl).trans ?_
  exact tt_pa rfl rfl hi2
theorem B25_53 {l2 : Int32} {l4 : Int32} {l5 : Int32} {t1 : Int32} {t2 : Int32} (hi1 : zin t1 208 = true) : zd S 25 53 [some (.ref 55), some (.ref 5), some (.int l2), some (.ref 1), some (.int l4), some (.int l5)] [.int t2, .int t1, .ref 61] I J k = zd S 25 56 [some (.ref 55), some (.ref 5), some (.int l2), some (.ref 1), some (.int l4), none] [] (u2 I 61 t1.toNatClampNeg (t2 + 3)) J k := by
  refine (tt_f rfl).trans ?_
  refine tt_c.trans ?_
  refine (tt_fk rfl rfl).trans ?_
  refine tt_bi.trans ?_
  refine (tt_f rfl).trans ?_
  exact tt_pa rfl rfl hi1
theorem B25_56 {l2 : Int32} {l4 : Int32}  : zd S 25 56 [some (.ref 55), some (.ref 5), some (.int l2), some (.ref 1), some (.int l4), none] [] I J k = zd S 25 3 [some (.ref 55), some (.ref 5), some (.int l2), some (.ref 1), some (.int (l4 + 1)), none] [] I J k := by
  refine (tt_f rfl).trans ?_
  refine (tt_in rfl rfl).trans ?_
  refine (tt_f rfl).trans ?_
  refine tt_go.trans ?_
  rfl
theorem B25_62 {l2 : Int32} {l4 : Int32}  : zd S 25 62 [some (.ref 55), some (.ref 5), some (.int l2), some (.ref 1), some (.int l4), none] [] I J k = some (none, mk I J, k) := by
  exact tt_rv rfl
/-! 26: Breaker.markEnds -/
theorem B26_0 {l2 : Int32}  : zd S 26 0 [some (.ref 55), some (.ref 5), some (.int l2), none, none] [] I J k = zd S 26 5 [some (.ref 55), some (.ref 5), some (.int l2), some (.int 0), some (.int 1)] [] I J k := by
  refine (tt_f rfl).trans ?_
  refine tt_c.trans ?_
  refine (tt_f rfl).trans ?_
  refine (tt_is rfl rfl).trans ?_
  refine (tt_f rfl).trans ?_
  refine tt_c.trans ?_
  refine (tt_f rfl).trans ?_
  refine (tt_is rfl rfl).trans ?_
  rfl
theorem B26_5 {l2 : Int32} {l3 : Int32} {l4 : Int32}  : zd S 26 5 [some (.ref 55), some (.ref 5), some (.int l2), some (.int l3), some (.int l4)] [] I J k = if (I 55 6) < l4 then zd S 26 75 [some (.ref 55), some (.ref 5), some (.int l2), some (.int l3), some (.int l4)] [] I J k else zd S 26 14 [some (.ref 55), some (.ref 5), some (.int l2), some (.int l3), some (.int l4)] [] I J k := by
  refine (tt_fk rfl rfl).trans ?_
  refine (tt_il rfl).trans ?_
  refine (tt_f rfl).trans ?_
  refine (tt_al rfl).trans ?_
  refine (tt_f rfl).trans ?_
  refine (tt_gi rfl rfl).trans ?_
  refine (tt_f rfl).trans ?_
  exact tt_f2 (p := fun x y => y < x) inferInstance rfl
theorem B26_14 {l2 : Int32} {l3 : Int32} {l4 : Int32} (hi1 : zin l4 208 = true) : zd S 26 14 [some (.ref 55), some (.ref 5), some (.int l2), some (.int l3), some (.int l4)] [] I J k = zd S 26 22 [some (.ref 55), some (.ref 5), some (.int l2), some (.int l3), some (.int l4)] [] (u2 I 62 l4.toNatClampNeg 0) J k := by
  refine (tt_f rfl).trans ?_
  refine (tt_al rfl).trans ?_
  refine (tt_f rfl).trans ?_
  refine (tt_gr rfl rfl).trans ?_
  refine (tt_f rfl).trans ?_
  refine (tt_il rfl).trans ?_
  refine (tt_f rfl).trans ?_
  refine tt_c.trans ?_
  refine (tt_f rfl).trans ?_
  exact tt_pa rfl rfl hi1
theorem B26_22 {l2 : Int32} {l3 : Int32} {l4 : Int32}  : zd S 26 22 [some (.ref 55), some (.ref 5), some (.int l2), some (.int l3), some (.int l4)] [] I J k = if l4 = (I 55 6) then zd S 26 42 [some (.ref 55), some (.ref 5), some (.int l2), some (.int l3), some (.int l4)] [] I J k else zd S 26 31 [some (.ref 55), some (.ref 5), some (.int l2), some (.int l3), some (.int l4)] [] I J k := by
  refine (tt_f rfl).trans ?_
  refine (tt_il rfl).trans ?_
  refine (tt_f rfl).trans ?_
  refine (tt_al rfl).trans ?_
  refine (tt_f rfl).trans ?_
  refine (tt_gi rfl rfl).trans ?_
  refine (tt_f rfl).trans ?_
  exact tt_f2 (p := fun x y => x = y) inferInstance rfl
theorem B26_31 {l2 : Int32} {l3 : Int32} {l4 : Int32} (hi1 : zin (l2 + l4) 480 = true) : zd S 26 31 [some (.ref 55), some (.ref 5), some (.int l2), some (.int l3), some (.int l4)] [] I J k = if ¬ (I 5 (l2 + l4).toNatClampNeg) = 32 then zd S 26 69 [some (.ref 55), some (.ref 5), some (.int l2), some (.int l3), some (.int l4)] [] I J k else zd S 26 42 [some (.ref 55), some (.ref 5), some (.int l2), some (.int l3), some (.int l4)] [] I J k := by
  refine (tt_f rfl).trans ?_
  refine (tt_al rfl).trans ?_
  refine (tt_f rfl).trans ?_
  refine (tt_il rfl).trans ?_
  refine (tt_f rfl).trans ?_
  refine (tt_il rfl).trans ?_
  refine (tt_f rfl).trans ?_
  refine tt_bi.trans ?_
  refine (tt_f rfl).trans ?_
  refine (tt_ga rfl rfl hi1).trans ?_
  refine (tt_f rfl).trans ?_
  refine tt_c.trans ?_
  refine (tt_f rfl).trans ?_
  exact tt_f2 (p := fun x y => ¬ x = y) inferInstance rfl
theorem B26_42 {l2 : Int32} {l3 : Int32} {l4 : Int32} {v1 : Int32} {I2 : zI} {J3 : zJ} (hb : Nat.ble k.1 (mBu 26).1 = true ∧ Nat.ble k.2 (mBu 26).2 = true) (hq : zq S 53 [.ref 56, .ref 5, .int (l2 + l3), .int (l2 + l4)] I J (some (.int v1)) I2 J3) : zd S 26 42 [some (.ref 55), some (.ref 5), some (.int l2), some (.int l3), some (.int l4)] [] I J k = zd S 26 61 [some (.ref 55), some (.ref 5), some (.int l2), some (.int l3), some (.int l4)] [.int v1, .int l4, .int l3, .ref 55] I2 J3 k := by
  refine (tt_fk rfl rfl).trans ?_
  refine (tt_al rfl).trans ?_
  refine (tt_f rfl).trans ?_
  refine (tt_il rfl).trans ?_
  refine (tt_f rfl).trans ?_
  refine (tt_il rfl).trans ?_
  refine (tt_f rfl).trans ?_
  refine (tt_al rfl).trans ?_
  refine (tt_f rfl).trans ?_
  refine (tt_gr rfl rfl).trans ?_
  refine (tt_f rfl).trans ?_
  refine (tt_al rfl).trans ?_
  refine (tt_f rfl).trans ?_
  refine (tt_il rfl).trans ?_
  refine (tt_f rfl).trans ?_
  refine (tt_il rfl).trans ?_
  refine (tt_f rfl).trans ?_
  refine tt_bi.trans ?_
  refine (tt_f rfl).trans ?_
  refine (tt_il rfl).trans ?_
  refine (tt_f rfl).trans ?_
  refine (tt_il rfl).trans ?_
  refine (tt_f rfl).trans ?_
  refine tt_bi.trans ?_
  exact tt_cv (As := [.ref 5, .int (l2 + l3), .int (l2 + l4)]) rfl hb.1 hb.2 rfl rfl rfl rfl rfl hq
theorem B26_61 {l2 : Int32} {l3 : Int32} {l4 : Int32} {t1 : Int32} {t2 : Int32} {t3 : Int32} {I1 : zI} {J2 : zJ} (hb : Nat.ble k.1 (mBu 26).1 = true ∧ Nat.ble k.2 (mBu 26).2 = true) (hq : zq S 27 [.ref 55, .int t1, .int t2, .int t3] I J none I1 J2) : zd S 26 61 [some (.ref 55), some (.ref 5), some (.int l2), some (.int l3), some (.int l4)] [.int t3, .int t2, .int t1, .ref 55] I J k = zd S 26 64 [some (.ref 55), some (.ref 5), some (.int l2), some (.int l3), some (.int l4)] [] I1 J2 k := by
  exact tt_cv (As := [.int t1, .int t2, .int t3]) rfl hb.1 hb.2 rfl rfl rfl rfl rfl hq
theorem B26_64 {l2 : Int32} {l3 : Int32} {l4 : Int32}  : zd S 26 64 [some (.ref 55), some (.ref 5), some (.int l2), some (.int l3), some (.int l4)] [] I J k = zd S 26 5 [some (.ref 55), some (.ref 5), some (.int l2), some (.int (l4 + 1)), some (.int (l4 + 1))] [] I J k := by
  refine (tt_f rfl).trans ?_
  refine (tt_il rfl).trans ?_
  refine (tt_f rfl).trans ?_
  refine tt_c.trans ?_
  refine (tt_f rfl).trans ?_
  refine tt_bi.trans ?_
  refine (tt_f rfl).trans ?_
  refine (tt_is rfl rfl).trans ?_
  refine (tt_fk rfl rfl).trans ?_
  refine (tt_in rfl rfl).trans ?_
  refine (tt_f rfl).trans ?_
  refine tt_go.trans ?_
  rfl
theorem B26_69 {l2 : Int32} {l3 : Int32} {l4 : Int32}  : zd S 26 69 [some (.ref 55), some (.ref 5), some (.int l2), some (.int l3), some (.int l4)] [] I J k = zd S 26 5 [some (.ref 55), some (.ref 5), some (.int l2), some (.int l3), some (.int (l4 + 1))] [] I J k := by
  refine (tt_fk rfl rfl).trans ?_
  refine (tt_in rfl rfl).trans ?_
  refine (tt_f rfl).trans ?_
  refine tt_go.trans ?_
  rfl
theorem B26_75 {l2 : Int32} {l3 : Int32} {l4 : Int32} (hi1 : zin (I 55 6) 208 = true) : zd S 26 75 [some (.ref 55), some (.ref 5), some (.int l2), some (.int l3), some (.int l4)] [] I J k = zd S 26 85 [some (.ref 55), some (.ref 5), some (.int l2), some (.int l3), some (.int l4)] [] (u2 I 62 (I 55 6).toNatClampNeg 3) J k := by
  refine (tt_f rfl).trans ?_
  refine (tt_al rfl).trans ?_
  refine (tt_f rfl).trans ?_
  refine (tt_gr rfl rfl).trans ?_
  refine (tt_f rfl).trans ?_
  refine (tt_al rfl).trans ?_
  refine (tt_f rfl).trans ?_
  refine (tt_gi rfl rfl).trans ?_
  refine (tt_f rfl).trans ?_
  refine tt_c.trans ?_
  refine (tt_f rfl).trans ?_
  exact tt_pa rfl rfl hi1
theorem B26_85 {l2 : Int32} {l3 : Int32} {l4 : Int32}  : zd S 26 85 [some (.ref 55), some (.ref 5), some (.int l2), some (.int l3), some (.int l4)] [] I J k = some (none, mk I J, k) := by
  exact tt_rv rfl
/-! 27: Breaker.markWord -/
theorem B27_0 {l1 : Int32} {l2 : Int32} {l3 : Int32}  : zd S 27 0 [some (.ref 55), some (.int l1), some (.int l2), some (.int l3), none] [] I J k = zd S 27 5 [some (.ref 55), some (.int l1), some (.int l2), some (.int l3), some (.int (l1 + 1))] [] I J k := by
  refine (tt_f rfl).trans ?_
  refine (tt_il rfl).trans ?_
  refine (tt_f rfl).trans ?_
  refine tt_c.trans ?_
  refine (tt_f rfl).trans ?_
  refine tt_bi.trans ?_
  refine (tt_f rfl).trans ?_
  refine (tt_is rfl rfl).trans ?_
  rfl
theorem B27_5 {l1 : Int32} {l2 : Int32} {l3 : Int32} {l4 : Int32}  : zd S 27 5 [some (.ref 55), some (.int l1), some (.int l2), some (.int l3), some (.int l4)] [] I J k = if l2 ≤ l4 then zd S 27 37 [some (.ref 55), some (.int l1), some (.int l2), some (.int l3), some (.int l4)] [] I J k else zd S 27 11 [some (.ref 55), some (.int l1), some (.int l2), some (.int l3), some (.int l4)] [] I J k := by
  refine (tt_fk rfl rfl).trans ?_
  refine (tt_il rfl).trans ?_
  refine (tt_f rfl).trans ?_
  refine (tt_il rfl).trans ?_
  refine (tt_f rfl).trans ?_
  exact tt_f2 (p := fun x y => y ≤ x) inferInstance rfl
theorem B27_11 {l1 : Int32} {l2 : Int32} {l3 : Int32} {l4 : Int32} {v1 : Int32} {I2 : zI} {J3 : zJ} (hb : Nat.ble k.1 (mBu 27).1 = true ∧ Nat.ble k.2 (mBu 27).2 = true) (hq : zq S 22 [.long (l3).toInt64, .int (l4 - l1)] I J (some (.int v1)) I2 J3) : zd S 27 11 [some (.ref 55), some (.int l1), some (.int l2), some (.int l3), some (.int l4)] [] I J k = zd S 27 20 [some (.ref 55), some (.int l1), some (.int l2), some (.int l3), some (.int l4)] [.int v1] I2 J3 k := by
  refine (tt_f rfl).trans ?_
  refine (tt_il rfl).trans ?_
  refine (tt_f rfl).trans ?_
  refine tt_i2l.trans ?_
  refine (tt_f rfl).trans ?_
  refine (tt_il rfl).trans ?_
  refine (tt_f rfl).trans ?_
  refine (tt_il rfl).trans ?_
  refine (tt_f rfl).trans ?_
  refine tt_bi.trans ?_
  exact tt_cs (vs := [.long (l3).toInt64, .int (l4 - l1)]) rfl hb.1 hb.2 rfl rfl rfl rfl hq
theorem B27_20 {l1 : Int32} {l2 : Int32} {l3 : Int32} {l4 : Int32} {t0 : Int32}  : zd S 27 20 [some (.ref 55), some (.int l1), some (.int l2), some (.int l3), some (.int l4)] [.int t0] I J k = if t0 = 0 then zd S 27 31 [some (.ref 55), some (.int l1), some (.int l2), some (.int l3), some (.int l4)] [] I J k else zd S 27 23 [some (.ref 55), some (.int l1), some (.int l2), some (.int l3), some (.int l4)] [] I J k := by
  refine (tt_f rfl).trans ?_
  exact tt_f1 (p := fun x => x = 0) inferInstance rfl
theorem B27_23 {l1 : Int32} {l2 : Int32} {l3 : Int32} {l4 : Int32} (hi1 : zin l4 208 = true) : zd S 27 23 [some (.ref 55), some (.int l1), some (.int l2), some (.int l3), some (.int l4)] [] I J k = zd S 27 31 [some (.ref 55), some (.int l1), some (.int l2), some (.int l3), some (.int l4)] [] (u2 I 62 l4.toNatClampNeg 2) J k := by
  refine (tt_f rfl).trans ?_
  refine (tt_al rfl).trans ?_
  refine (tt_f rfl).trans ?_
  refine (tt_gr rfl rfl).trans ?_
  refine (tt_f rfl).trans ?_
  refine (tt_il rfl).trans ?_
  refine (tt_f rfl).trans ?_
  refine tt_c.trans ?_
  refine (tt_f rfl).trans ?_
  exact tt_pa rfl rfl hi1
theorem B27_31 {l1 : Int32} {l2 : Int32} {l3 : Int32} {l4 : Int32}  : zd S 27 31 [some (.ref 55), some (.int l1), some (.int l2), some (.int l3), some (.int l4)] [] I J k = zd S 27 5 [some (.ref 55), some (.int l1), some (.int l2), some (.int l3), some (.int (l4 + 1))] [] I J k := by
  refine (tt_fk rfl rfl).trans ?_
  refine (tt_in rfl rfl).trans ?_
  refine (tt_f rfl).trans ?_
  refine tt_go.trans ?_
  rfl
theorem B27_37 {l1 : Int32} {l2 : Int32} {l3 : Int32} {l4 : Int32} (hi1 : zin l2 208 = true) : zd S 27 37 [some (.ref 55), some (.int l1), some (.int l2), some (.int l3), some (.int l4)] [] I J k = zd S 27 44 [some (.ref 55), some (.int l1), some (.int l2), some (.int l3), some (.int l4)] [] (u2 I 62 l2.toNatClampNeg 1) J k := by
  refine (tt_f rfl).trans ?_
  refine (tt_al rfl).trans ?_
  refine (tt_f rfl).trans ?_
  refine (tt_gr rfl rfl).trans ?_
  refine (tt_f rfl).trans ?_
  refine (tt_il rfl).trans ?_
  refine (tt_f rfl).trans ?_
  refine tt_c.trans ?_
  refine (tt_f rfl).trans ?_
  exact tt_pa rfl rfl hi1
theorem B27_44 {l1 : Int32} {l2 : Int32} {l3 : Int32} {l4 : Int32}  : zd S 27 44 [some (.ref 55), some (.int l1), some (.int l2), some (.int l3), some (.int l4)] [] I J k = some (none, mk I J, k) := by
  exact tt_rv rfl
/-! 28: Breaker.leastCost -/
theorem B28_0   : zd S 28 0 [some (.ref 55), none, none] [] I J k = zd S 28 7 [some (.ref 55), some (.int ((I 55 6) - 1)), none] [] I J k := by
  refine (tt_f rfl).trans ?_
  refine (tt_al rfl).trans ?_
  refine (tt_f rfl).trans ?_
  refine (tt_gi rfl rfl).trans ?_
  refine (tt_f rfl).trans ?_
  refine tt_c.trans ?_
  refine (tt_f rfl).trans ?_
  refine tt_bi.trans ?_
  refine (tt_f rfl).trans ?_
  refine (tt_is rfl rfl).trans ?_
  rfl
theorem B28_7 {l1 : Int32}  : zd S 28 7 [some (.ref 55), some (.int l1), none] [] I J k = if l1 < 0 then zd S 28 58 [some (.ref 55), some (.int l1), none] [] I J k else zd S 28 11 [some (.ref 55), some (.int l1), none] [] I J k := by
  refine (tt_fk rfl rfl).trans ?_
  refine (tt_il rfl).trans ?_
  refine (tt_f rfl).trans ?_
  exact tt_f1 (p := fun x => x < 0) inferInstance rfl
theorem B28_11 {l1 : Int32}  : zd S 28 11 [some (.ref 55), some (.int l1), none] [] I J k = if l1 = 0 then zd S 28 37 [some (.ref 55), some (.int l1), none] [] I J k else zd S 28 15 [some (.ref 55), some (.int l1), none] [] I J k := by
  refine (tt_f rfl).trans ?_
  refine (tt_il rfl).trans ?_
  refine (tt_f rfl).trans ?_
  exact tt_f1 (p := fun x => x = 0) inferInstance rfl
theorem B28_15 {l1 : Int32} (hi1 : zin l1 208 = true) : zd S 28 15 [some (.ref 55), some (.int l1), none] [] I J k = if (I 62 l1.toNatClampNeg) = 2 then zd S 28 37 [some (.ref 55), some (.int l1), none] [] I J k else zd S 28 25 [some (.ref 55), some (.int l1), none] [] I J k := by
  refine (tt_f rfl).trans ?_
  refine (tt_al rfl).trans ?_
  refine (tt_f rfl).trans ?_
  refine (tt_gr rfl rfl).trans ?_
  refine (tt_f rfl).trans ?_
  refine (tt_il rfl).trans ?_
  refine (tt_f rfl).trans ?_
  refine (tt_ga rfl rfl hi1).trans ?_
  refine (tt_f rfl).trans ?_
  refine tt_c.trans ?_
  refine (tt_f rfl).trans ?_
  exact tt_f2 (p := fun x y => x = y) inferInstance rfl
theorem B28_25 {l1 : Int32} (hi1 : zin (l1 - 1) 208 = true) : zd S 28 25 [some (.ref 55), some (.int l1), none] [] I J k = if ¬ (I 62 (l1 - 1).toNatClampNeg) = 1 then zd S 28 41 [some (.ref 55), some (.int l1), none] [] I J k else zd S 28 37 [some (.ref 55), some (.int l1), none] [] I J k := by
  refine (tt_f rfl).trans ?_
  refine (tt_al rfl).trans ?_
  refine (tt_f rfl).trans ?_
  refine (tt_gr rfl rfl).trans ?_
  refine (tt_f rfl).trans ?_
  refine (tt_il rfl).trans ?_
  refine (tt_f rfl).trans ?_
  refine tt_c.trans ?_
  refine (tt_f rfl).trans ?_
  refine tt_bi.trans ?_
  refine (tt_f rfl).trans ?_
  refine (tt_ga rfl rfl hi1).trans ?_
  refine (tt_f rfl).trans ?_
  refine tt_c.trans ?_
  refine (tt_f rfl).trans ?_
  exact tt_f2 (p := fun x y => ¬ x = y) inferInstance rfl
theorem B28_37 {l1 : Int32}  : zd S 28 37 [some (.ref 55), some (.int l1), none] [] I J k = if 1 = 0 then zd S 28 52 [some (.ref 55), some (.int l1), some (.int 1)] [] I J k else zd S 28 47 [some (.ref 55), some (.int l1), some (.int 1)] [] I J k := by
  refine (tt_fk rfl rfl).trans ?_
  refine tt_c.trans ?_
  refine (tt_f rfl).trans ?_
  refine tt_go.trans ?_
  refine (tt_fk rfl rfl).trans ?_
  refine (tt_is rfl rfl).trans ?_
  refine (tt_f rfl).trans ?_
  refine (tt_il rfl).trans ?_
  refine (tt_f rfl).trans ?_
  exact tt_f1 (p := fun x => x = 0) inferInstance rfl
theorem B28_41 {l1 : Int32}  : zd S 28 41 [some (.ref 55), some (.int l1), none] [] I J k = if 0 = 0 then zd S 28 52 [some (.ref 55), some (.int l1), some (.int 0)] [] I J k else zd S 28 47 [some (.ref 55), some (.int l1), some (.int 0)] [] I J k := by
  refine (tt_f rfl).trans ?_
  refine tt_c.trans ?_
  refine (tt_fk rfl rfl).trans ?_
  refine (tt_is rfl rfl).trans ?_
  refine (tt_f rfl).trans ?_
  refine (tt_il rfl).trans ?_
  refine (tt_f rfl).trans ?_
  exact tt_f1 (p := fun x => x = 0) inferInstance rfl
theorem B28_47 {l1 : Int32} {l2 : Int32} {I1 : zI} {J2 : zJ} (hb : Nat.ble k.1 (mBu 28).1 = true ∧ Nat.ble k.2 (mBu 28).2 = true) (hq : zq S 29 [.ref 55, .int l1] I J none I1 J2) : zd S 28 47 [some (.ref 55), some (.int l1), some (.int l2)] [] I J k = zd S 28 52 [some (.ref 55), some (.int l1), some (.int l2)] [] I1 J2 k := by
  refine (tt_f rfl).trans ?_
  refine (tt_al rfl).trans ?_
  refine (tt_f rfl).trans ?_
  refine (tt_il rfl).trans ?_
  exact tt_cv (As := [.int l1]) rfl hb.1 hb.2 rfl rfl rfl rfl rfl hq
theorem B28_52 {l1 : Int32} {l2 : Int32}  : zd S 28 52 [some (.ref 55), some (.int l1), some (.int l2)] [] I J k = zd S 28 7 [some (.ref 55), some (.int (l1 + (-1))), none] [] I J k := by
  refine (tt_fk rfl rfl).trans ?_
  refine (tt_in rfl rfl).trans ?_
  refine (tt_f rfl).trans ?_
  refine tt_go.trans ?_
  rfl
theorem B28_58 {l1 : Int32} (hi1 : zin 0 208 = true) : zd S 28 58 [some (.ref 55), some (.int l1), none] [] I J k = some ((some (.int (I 63 (0 : Int32).toNatClampNeg))), mk I J, k) := by
  refine (tt_f rfl).trans ?_
  refine (tt_al rfl).trans ?_
  refine (tt_f rfl).trans ?_
  refine (tt_gr rfl rfl).trans ?_
  refine (tt_f rfl).trans ?_
  refine tt_c.trans ?_
  refine (tt_f rfl).trans ?_
  refine (tt_ga rfl rfl hi1).trans ?_
  exact tt_r1 rfl rfl
/-! 29: Breaker.chooseLine -/
theorem B29_0 {l1 : Int32} (hi1 : zin l1 208 = true) : zd S 29 0 [some (.ref 55), some (.int l1), none, none] [] I J k = zd S 29 7 [some (.ref 55), some (.int l1), none, none] [] (u2 I 63 l1.toNatClampNeg (-1)) J k := by
  refine (tt_f rfl).trans ?_
  refine (tt_al rfl).trans ?_
  refine (tt_f rfl).trans ?_
  refine (tt_gr rfl rfl).trans ?_
  refine (tt_f rfl).trans ?_
  refine (tt_il rfl).trans ?_
  refine (tt_f rfl).trans ?_
  refine tt_c.trans ?_
  refine (tt_f rfl).trans ?_
  exact tt_pa rfl rfl hi1
theorem B29_7 {l1 : Int32}  : zd S 29 7 [some (.ref 55), some (.int l1), none, none] [] I J k = zd S 29 11 [some (.ref 55), some (.int l1), some (.int (l1 + 1)), none] [] I J k := by
  refine (tt_f rfl).trans ?_
  refine (tt_il rfl).trans ?_
  refine (tt_f rfl).trans ?_
  refine tt_c.trans ?_
  refine (tt_f rfl).trans ?_
  refine tt_bi.trans ?_
  refine (tt_f rfl).trans ?_
  refine (tt_is rfl rfl).trans ?_
  rfl
theorem B29_11 {l1 : Int32} {l2 : Int32}  : zd S 29 11 [some (.ref 55), some (.int l1), some (.int l2), none] [] I J k = if (I 55 6) < l2 then zd S 29 94 [some (.ref 55), some (.int l1), some (.int l2), none] [] I J k else zd S 29 19 [some (.ref 55), some (.int l1), some (.int l2), none] [] I J k := by
  refine (tt_fk rfl rfl).trans ?_
  refine (tt_il rfl).trans ?_
  refine (tt_f rfl).trans ?_
  refine (tt_al rfl).trans ?_
  refine (tt_f rfl).trans ?_
  refine (tt_gi rfl rfl).trans ?_
  refine (tt_f rfl).trans ?_
  exact tt_f2 (p := fun x y => y < x) inferInstance rfl
theorem B29_19 {l1 : Int32} {l2 : Int32} (hi1 : zin l2 208 = true) (hi2 : zin l1 208 = true) : zd S 29 19 [some (.ref 55), some (.int l1), some (.int l2), none] [] I J k = if ((I 61 l2.toNatClampNeg) - (I 61 l1.toNatClampNeg)) ≤ (I 55 1) then zd S 29 42 [some (.ref 55), some (.int l1), some (.int l2), none] [] I J k else zd S 29 39 [some (.ref 55), some (.int l1), some (.int l2), none] [] I J k := by
  refine (tt_f rfl).trans ?_
  refine (tt_al rfl).trans ?_
  refine (tt_f rfl).trans ?_
  refine (tt_gr rfl rfl).trans ?_
  refine (tt_f rfl).trans ?_
  refine (tt_il rfl).trans ?_
  refine (tt_f rfl).trans ?_
  refine (tt_ga rfl rfl hi1).trans ?_
  refine (tt_f rfl).trans ?_
  refine (tt_al rfl).trans ?_
  refine (tt_f rfl).trans ?_
  refine (tt_gr rfl rfl).trans ?_
  refine (tt_f rfl).trans ?_
  refine (tt_il rfl).trans ?_
  refine (tt_f rfl).trans ?_
  refine (tt_ga rfl rfl hi2).trans ?_
  refine (tt_f rfl).trans ?_
  refine tt_bi.trans ?_
  refine (tt_f rfl).trans ?_
  refine (tt_al rfl).trans ?_
  refine (tt_f rfl).trans ?_
  refine (tt_gi rfl rfl).trans ?_
  refine (tt_f rfl).trans ?_
  exact tt_f2 (p := fun x y => x ≤ y) inferInstance rfl
theorem B29_39 {l1 : Int32} {l2 : Int32}  : zd S 29 39 [some (.ref 55), some (.int l1), some (.int l2), none] [] I J k = some (none, mk I J, k) := by
  refine (tt_f rfl).trans ?_
  refine tt_go.trans ?_
  exact tt_rv rfl
theorem B29_42 {l1 : Int32} {l2 : Int32} {v1 : Int32} {I2 : zI} {J3 : zJ} (hb : Nat.ble k.1 (mBu 29).1 = true ∧ Nat.ble k.2 (mBu 29).2 = true) (hq : zq S 30 [.ref 55, .int l1, .int l2] I J (some (.int v1)) I2 J3) : zd S 29 42 [some (.ref 55), some (.int l1), some (.int l2), none] [] I J k = zd S 29 48 [some (.ref 55), some (.int l1), some (.int l2), none] [.int v1] I2 J3 k := by
  refine (tt_f rfl).trans ?_
  refine (tt_al rfl).trans ?_
  refine (tt_f rfl).trans ?_
  refine (tt_il rfl).trans ?_
  refine (tt_f rfl).trans ?_
  refine (tt_il rfl).trans ?_
  exact tt_cv (As := [.int l1, .int l2]) rfl hb.1 hb.2 rfl rfl rfl rfl rfl hq
theorem B29_48 {l1 : Int32} {l2 : Int32} {t0 : Int32}  : zd S 29 48 [some (.ref 55), some (.int l1), some (.int l2), none] [.int t0] I J k = if t0 = (-1) then zd S 29 88 [some (.ref 55), some (.int l1), some (.int l2), some (.int t0)] [] I J k else zd S 29 54 [some (.ref 55), some (.int l1), some (.int l2), some (.int t0)] [] I J k := by
  refine (tt_f rfl).trans ?_
  refine (tt_is rfl rfl).trans ?_
  refine (tt_f rfl).trans ?_
  refine (tt_il rfl).trans ?_
  refine (tt_f rfl).trans ?_
  refine tt_c.trans ?_
  refine (tt_f rfl).trans ?_
  exact tt_f2 (p := fun x y => x = y) inferInstance rfl
theorem B29_54 {l1 : Int32} {l2 : Int32} {l3 : Int32} (hi1 : zin l1 208 = true) : zd S 29 54 [some (.ref 55), some (.int l1), some (.int l2), some (.int l3)] [] I J k = if (I 63 l1.toNatClampNeg) = (-1) then zd S 29 74 [some (.ref 55), some (.int l1), some (.int l2), some (.int l3)] [] I J k else zd S 29 64 [some (.ref 55), some (.int l1), some (.int l2), some (.int l3)] [] I J k := by
  refine (tt_f rfl).trans ?_
  refine (tt_al rfl).trans ?_
  refine (tt_f rfl).trans ?_
  refine (tt_gr rfl rfl).trans ?_
  refine (tt_f rfl).trans ?_
  refine (tt_il rfl).trans ?_
  refine (tt_f rfl).trans ?_
  refine (tt_ga rfl rfl hi1).trans ?_
  refine (tt_f rfl).trans ?_
  refine tt_c.trans ?_
  refine (tt_f rfl).trans ?_
  exact tt_f2 (p := fun x y => x = y) inferInstance rfl
theorem B29_64 {l1 : Int32} {l2 : Int32} {l3 : Int32} (hi1 : zin l1 208 = true) : zd S 29 64 [some (.ref 55), some (.int l1), some (.int l2), some (.int l3)] [] I J k = if (I 63 l1.toNatClampNeg) < l3 then zd S 29 88 [some (.ref 55), some (.int l1), some (.int l2), some (.int l3)] [] I J k else zd S 29 74 [some (.ref 55), some (.int l1), some (.int l2), some (.int l3)] [] I J k := by
  refine (tt_f rfl).trans ?_
  refine (tt_il rfl).trans ?_
  refine (tt_f rfl).trans ?_
  refine (tt_al rfl).trans ?_
  refine (tt_f rfl).trans ?_
  refine (tt_gr rfl rfl).trans ?_
  refine (tt_f rfl).trans ?_
  refine (tt_il rfl).trans ?_
  refine (tt_f rfl).trans ?_
  refine (tt_ga rfl rfl hi1).trans ?_
  refine (tt_f rfl).trans ?_
  exact tt_f2 (p := fun x y => y < x) inferInstance rfl
theorem B29_74 {l1 : Int32} {l2 : Int32} {l3 : Int32} (hi1 : zin l1 208 = true) : zd S 29 74 [some (.ref 55), some (.int l1), some (.int l2), some (.int l3)] [] I J k = zd S 29 81 [some (.ref 55), some (.int l1), some (.int l2), some (.int l3)] [] (u2 I 63 l1.toNatClampNeg l3) J k := by
  refine (tt_fk rfl rfl).trans ?_
  refine (tt_al rfl).trans ?_
  refine (tt_f rfl).trans ?_
  refine (tt_gr rfl rfl).trans ?_
  refine (tt_f rfl).trans ?_
  refine (tt_il rfl).trans ?_
  refine (tt_f rfl).trans ?_
  refine (tt_il rfl).trans ?_
  refine (tt_f rfl).trans ?_
  exact tt_pa rfl rfl hi1
theorem B29_81 {l1 : Int32} {l2 : Int32} {l3 : Int32} (hi1 : zin l1 208 = true) : zd S 29 81 [some (.ref 55), some (.int l1), some (.int l2), some (.int l3)] [] I J k = zd S 29 88 [some (.ref 55), some (.int l1), some (.int l2), some (.int l3)] [] (u2 I 64 l1.toNatClampNeg l2) J k := by
  refine (tt_f rfl).trans ?_
  refine (tt_al rfl).trans ?_
  refine (tt_f rfl).trans ?_
  refine (tt_gr rfl rfl).trans ?_
  refine (tt_f rfl).trans ?_
  refine (tt_il rfl).trans ?_
  refine (tt_f rfl).trans ?_
  refine (tt_il rfl).trans ?_
  refine (tt_f rfl).trans ?_
  exact tt_pa rfl rfl hi1
theorem B29_88 {l1 : Int32} {l2 : Int32} {l3 : Int32}  : zd S 29 88 [some (.ref 55), some (.int l1), some (.int l2), some (.int l3)] [] I J k = zd S 29 11 [some (.ref 55), some (.int l1), some (.int (l2 + 1)), none] [] I J k := by
  refine (tt_fk rfl rfl).trans ?_
  refine (tt_in rfl rfl).trans ?_
  refine (tt_f rfl).trans ?_
  refine tt_go.trans ?_
  rfl
theorem B29_94 {l1 : Int32} {l2 : Int32}  : zd S 29 94 [some (.ref 55), some (.int l1), some (.int l2), none] [] I J k = some (none, mk I J, k) := by
  exact tt_rv rfl
/-! 30: Breaker.costWith -/
theorem B30_0 {l1 : Int32} {l2 : Int32} (hi1 : zin l2 208 = true) (hi2 : zin l2 208 = true) (hi3 : zin l1 208 = true) : zd S 30 0 [some (.ref 55), some (.int l1), some (.int l2), none, none, none] [] I J k = if ¬ (I 62 l2.toNatClampNeg) = 2 then zd S 30 34 [some (.ref 55), some (.int l1), some (.int l2), some (.int (I 62 l2.toNatClampNeg)), none, none] [.int ((I 55 1) - ((I 61 l2.toNatClampNeg) - (I 61 l1.toNatClampNeg)))] I J k else zd S 30 30 [some (.ref 55), some (.int l1), some (.int l2), some (.int (I 62 l2.toNatClampNeg)), none, none] [.int ((I 55 1) - ((I 61 l2.toNatClampNeg) - (I 61 l1.toNatClampNeg)))] I J k := by
  refine (tt_f rfl).trans ?_
  refine (tt_al rfl).trans ?_
  refine (tt_f rfl).trans ?_
  refine (tt_gr rfl rfl).trans ?_
  refine (tt_f rfl).trans ?_
  refine (tt_il rfl).trans ?_
  refine (tt_f rfl).trans ?_
  refine (tt_ga rfl rfl hi1).trans ?_
  refine (tt_f rfl).trans ?_
  refine (tt_is rfl rfl).trans ?_
  refine (tt_f rfl).trans ?_
  refine (tt_al rfl).trans ?_
  refine (tt_f rfl).trans ?_
  refine (tt_gi rfl rfl).trans ?_
  refine (tt_f rfl).trans ?_
  refine (tt_al rfl).trans ?_
  refine (tt_f rfl).trans ?_
  refine (tt_gr rfl rfl).trans ?_
  refine (tt_f rfl).trans ?_
  refine (tt_il rfl).trans ?_
  refine (tt_f rfl).trans ?_
  refine (tt_ga rfl rfl hi2).trans ?_
  refine (tt_f rfl).trans ?_
  refine (tt_al rfl).trans ?_
  refine (tt_f rfl).trans ?_
  refine (tt_gr rfl rfl).trans ?_
  refine (tt_f rfl).trans ?_
  refine (tt_il rfl).trans ?_
  refine (tt_f rfl).trans ?_
  refine (tt_ga rfl rfl hi3).trans ?_
  refine (tt_f rfl).trans ?_
  refine tt_bi.trans ?_
  refine (tt_f rfl).trans ?_
  refine tt_bi.trans ?_
  refine (tt_f rfl).trans ?_
  refine (tt_il rfl).trans ?_
  refine (tt_f rfl).trans ?_
  refine tt_c.trans ?_
  refine (tt_f rfl).trans ?_
  exact tt_f2 (p := fun x y => ¬ x = y) inferInstance rfl
theorem B30_30 {l1 : Int32} {l2 : Int32} {l3 : Int32} {t0 : Int32}  : zd S 30 30 [some (.ref 55), some (.int l1), some (.int l2), some (.int l3), none, none] [.int t0] I J k = if l3 = 0 then zd S 30 47 [some (.ref 55), none, some (.int l2), some (.int l3), some (.int (t0 - 2)), none] [] I J k else zd S 30 42 [some (.ref 55), none, some (.int l2), some (.int l3), some (.int (t0 - 2)), none] [] I J k := by
  refine (tt_f rfl).trans ?_
  refine tt_c.trans ?_
  refine (tt_f rfl).trans ?_
  refine tt_go.trans ?_
  refine (tt_fk rfl rfl).trans ?_
  refine tt_bi.trans ?_
  refine (tt_f rfl).trans ?_
  refine (tt_is rfl rfl).trans ?_
  refine (tt_f rfl).trans ?_
  refine (tt_il rfl).trans ?_
  refine (tt_f rfl).trans ?_
  exact tt_f1 (p := fun x => x = 0) inferInstance rfl
theorem B30_34 {l1 : Int32} {l2 : Int32} {l3 : Int32} {t0 : Int32}  : zd S 30 34 [some (.ref 55), some (.int l1), some (.int l2), some (.int l3), none, none] [.int t0] I J k = if l3 = 0 then zd S 30 47 [some (.ref 55), none, some (.int l2), some (.int l3), some (.int (t0 - 0)), none] [] I J k else zd S 30 42 [some (.ref 55), none, some (.int l2), some (.int l3), some (.int (t0 - 0)), none] [] I J k := by
  refine (tt_f rfl).trans ?_
  refine tt_c.trans ?_
  refine (tt_fk rfl rfl).trans ?_
  refine tt_bi.trans ?_
  refine (tt_f rfl).trans ?_
  refine (tt_is rfl rfl).trans ?_
  refine (tt_f rfl).trans ?_
  refine (tt_il rfl).trans ?_
  refine (tt_f rfl).trans ?_
  exact tt_f1 (p := fun x => x = 0) inferInstance rfl
theorem B30_42 {l2 : Int32} {l3 : Int32} {l4 : Int32}  : zd S 30 42 [some (.ref 55), none, some (.int l2), some (.int l3), some (.int l4), none] [] I J k = if 0 ≤ l4 then zd S 30 49 [some (.ref 55), none, some (.int l2), some (.int l3), some (.int l4), none] [] I J k else zd S 30 47 [some (.ref 55), none, some (.int l2), some (.int l3), some (.int l4), none] [] I J k := by
  refine (tt_f rfl).trans ?_
  refine (tt_il rfl).trans ?_
  refine (tt_f rfl).trans ?_
  exact tt_f1 (p := fun x => 0 ≤ x) inferInstance rfl
theorem B30_47 {l2 : Int32} {l3 : Int32} {l4 : Int32}  : zd S 30 47 [some (.ref 55), none, some (.int l2), some (.int l3), some (.int l4), none] [] I J k = some ((some (.int (-1))), mk I J, k) := by
  refine (tt_fk rfl rfl).trans ?_
  refine tt_c.trans ?_
  exact tt_r1 rfl rfl
theorem B30_49 {l2 : Int32} {l3 : Int32} {l4 : Int32}  : zd S 30 49 [some (.ref 55), none, some (.int l2), some (.int l3), some (.int l4), none] [] I J k = if ¬ l3 = 3 then zd S 30 56 [some (.ref 55), none, some (.int l2), some (.int l3), some (.int l4), none] [] I J k else zd S 30 54 [some (.ref 55), none, some (.int l2), some (.int l3), some (.int l4), none] [] I J k := by
  refine (tt_f rfl).trans ?_
  refine (tt_il rfl).trans ?_
  refine (tt_f rfl).trans ?_
  refine tt_c.trans ?_
  refine (tt_f rfl).trans ?_
  exact tt_f2 (p := fun x y => ¬ x = y) inferInstance rfl
theorem B30_54 {l2 : Int32} {l3 : Int32} {l4 : Int32}  : zd S 30 54 [some (.ref 55), none, some (.int l2), some (.int l3), some (.int l4), none] [] I J k = some ((some (.int 0)), mk I J, k) := by
  refine (tt_f rfl).trans ?_
  refine tt_c.trans ?_
  exact tt_r1 rfl rfl
theorem B30_56 {l2 : Int32} {l3 : Int32} {l4 : Int32} {v1 : Int32} {I2 : zI} {J3 : zJ} (hb : Nat.ble k.1 (mBu 30).1 = true ∧ Nat.ble k.2 (mBu 30).2 = true) (hq : zq S 31 [.ref 55, .int l2] I J (some (.int v1)) I2 J3) : zd S 30 56 [some (.ref 55), none, some (.int l2), some (.int l3), some (.int l4), none] [] I J k = zd S 30 65 [some (.ref 55), none, some (.int l2), some (.int l3), some (.int l4), none] [.int v1, .ref 63] I2 J3 k := by
  refine (tt_f rfl).trans ?_
  refine (tt_al rfl).trans ?_
  refine (tt_f rfl).trans ?_
  refine (tt_gr rfl rfl).trans ?_
  refine (tt_f rfl).trans ?_
  refine (tt_al rfl).trans ?_
  refine (tt_f rfl).trans ?_
  refine (tt_il rfl).trans ?_
  exact tt_cv (As := [.int l2]) rfl hb.1 hb.2 rfl rfl rfl rfl rfl hq
theorem B30_65 {l2 : Int32} {l3 : Int32} {l4 : Int32} {t1 : Int32} (hi1 : zin t1 208 = true) : zd S 30 65 [some (.ref 55), none, some (.int l2), some (.int l3), some (.int l4), none] [.int t1, .ref 63] I J k = if ¬ (I 63 t1.toNatClampNeg) = (-1) then zd S 30 78 [some (.ref 55), none, some (.int l2), some (.int l3), some (.int l4), some (.int (I 63 t1.toNatClampNeg))] [] I J k else zd S 30 74 [some (.ref 55), none, some (.int l2), some (.int l3), some (.int l4), some (.int (I 63 t1.toNatClampNeg))] [] I J k := by
  refine (tt_f rfl).trans ?_
  refine (tt_ga rfl rfl hi1).trans ?_
  refine (tt_f rfl).trans ?_
  refine (tt_is rfl rfl).trans ?_
  refine (tt_f rfl).trans ?_
  refine (tt_il rfl).trans ?_
  refine (tt_f rfl).trans ?_
  refine tt_c.trans ?_
  refine (tt_f rfl).trans ?_
  exact tt_f2 (p := fun x y => ¬ x = y) inferInstance rfl
theorem B30_74 {l2 : Int32} {l3 : Int32} {l4 : Int32} {l5 : Int32}  : zd S 30 74 [some (.ref 55), none, some (.int l2), some (.int l3), some (.int l4), some (.int l5)] [] I J k = some ((some (.int (-1))), mk I J, k) := by
  refine (tt_f rfl).trans ?_
  refine tt_c.trans ?_
  refine (tt_f rfl).trans ?_
  refine tt_go.trans ?_
  exact tt_r1 rfl rfl
theorem B30_78 {l2 : Int32} {l3 : Int32} {l4 : Int32} {l5 : Int32}  : zd S 30 78 [some (.ref 55), none, some (.int l2), some (.int l3), some (.int l4), some (.int l5)] [] I J k = if ¬ l3 = 2 then zd S 30 96 [some (.ref 55), none, some (.int l2), some (.int l3), some (.int l4), some (.int l5)] [.int (l5 + (l4 * l4))] I J k else zd S 30 91 [some (.ref 55), none, some (.int l2), some (.int l3), some (.int l4), some (.int l5)] [.int (l5 + (l4 * l4))] I J k := by
  refine (tt_f rfl).trans ?_
  refine (tt_il rfl).trans ?_
  refine (tt_f rfl).trans ?_
  refine (tt_il rfl).trans ?_
  refine (tt_f rfl).trans ?_
  refine (tt_il rfl).trans ?_
  refine (tt_f rfl).trans ?_
  refine tt_bi.trans ?_
  refine (tt_f rfl).trans ?_
  refine tt_bi.trans ?_
  refine (tt_f rfl).trans ?_
  refine (tt_il rfl).trans ?_
  refine (tt_f rfl).trans ?_
  refine tt_c.trans ?_
  refine (tt_f rfl).trans ?_
  exact tt_f2 (p := fun x y => ¬ x = y) inferInstance rfl
theorem B30_91 {l2 : Int32} {l3 : Int32} {l4 : Int32} {l5 : Int32} {t0 : Int32}  : zd S 30 91 [some (.ref 55), none, some (.int l2), some (.int l3), some (.int l4), some (.int l5)] [.int t0] I J k = some ((some (.int (t0 + 100))), mk I J, k) := by
  refine (tt_f rfl).trans ?_
  refine tt_c.trans ?_
  refine (tt_f rfl).trans ?_
  refine tt_go.trans ?_
  refine (tt_fk rfl rfl).trans ?_
  refine tt_bi.trans ?_
  exact tt_r1 rfl rfl
theorem B30_96 {l2 : Int32} {l3 : Int32} {l4 : Int32} {l5 : Int32} {t0 : Int32}  : zd S 30 96 [some (.ref 55), none, some (.int l2), some (.int l3), some (.int l4), some (.int l5)] [.int t0] I J k = some ((some (.int (t0 + 0))), mk I J, k) := by
  refine (tt_f rfl).trans ?_
  refine tt_c.trans ?_
  refine (tt_fk rfl rfl).trans ?_
  refine tt_bi.trans ?_
  exact tt_r1 rfl rfl
/-! 31: Breaker.nextBegin -/
theorem B31_0 {l1 : Int32} (hi1 : zin l1 208 = true) : zd S 31 0 [some (.ref 55), some (.int l1)] [] I J k = if ¬ (I 62 l1.toNatClampNeg) = 2 then zd S 31 14 [some (.ref 55), some (.int l1)] [] I J k else zd S 31 10 [some (.ref 55), some (.int l1)] [] I J k := by
  refine (tt_f rfl).trans ?_
  refine (tt_al rfl).trans ?_
  refine (tt_f rfl).trans ?_
  refine (tt_gr rfl rfl).trans ?_
  refine (tt_f rfl).trans ?_
  refine (tt_il rfl).trans ?_
  refine (tt_f rfl).trans ?_
  refine (tt_ga rfl rfl hi1).trans ?_
  refine (tt_f rfl).trans ?_
  refine tt_c.trans ?_
  refine (tt_f rfl).trans ?_
  exact tt_f2 (p := fun x y => ¬ x = y) inferInstance rfl
theorem B31_10 {l1 : Int32}  : zd S 31 10 [some (.ref 55), some (.int l1)] [] I J k = some ((some (.int l1)), mk I J, k) := by
  refine (tt_f rfl).trans ?_
  refine (tt_il rfl).trans ?_
  refine (tt_f rfl).trans ?_
  refine tt_go.trans ?_
  exact tt_r1 rfl rfl
theorem B31_14 {l1 : Int32}  : zd S 31 14 [some (.ref 55), some (.int l1)] [] I J k = some ((some (.int (l1 + 1))), mk I J, k) := by
  refine (tt_f rfl).trans ?_
  refine (tt_il rfl).trans ?_
  refine (tt_f rfl).trans ?_
  refine tt_c.trans ?_
  refine (tt_f rfl).trans ?_
  refine tt_bi.trans ?_
  exact tt_r1 rfl rfl
/-! 32: Breaker.addLines -/
theorem B32_0 {l2 : Int32} {s1 : Nat} (hs1 : s1 < 4) : zd S 32 0 [some (.ref 55), some (.ref (7 + 12 * s1)), some (.int l2), none, none, none, none] [] I J k = zd S 32 11 [some (.ref 55), some (.ref (7 + 12 * s1)), some (.int l2), some (.int (I (7 + 12 * s1) 15)), some (.int 0), some (.int 0), none] [] I J k := by
  refine (tt_f rfl).trans ?_
  refine (tt_al rfl).trans ?_
  refine (tt_f rfl).trans ?_
  refine (tt_gi (shS hs1) rfl).trans ?_
  refine (tt_f rfl).trans ?_
  refine (tt_is rfl rfl).trans ?_
  refine (tt_f rfl).trans ?_
  refine tt_c.trans ?_
  refine (tt_f rfl).trans ?_
  refine (tt_is rfl rfl).trans ?_
  refine (tt_f rfl).trans ?_
  refine tt_c.trans ?_
  refine (tt_f rfl).trans ?_
  refine (tt_is rfl rfl).trans ?_
  rfl
theorem B32_11 {l2 : Int32} {l3 : Int32} {l4 : Int32} {l5 : Int32} {o6 : Option Value} {s1 : Nat} (hs1 : s1 < 4) : zd S 32 11 [some (.ref 55), some (.ref (7 + 12 * s1)), some (.int l2), some (.int l3), some (.int l4), some (.int l5), o6] [] I J k = if (I 55 6) ≤ l5 then zd S 32 71 [some (.ref 55), some (.ref (7 + 12 * s1)), some (.int l2), some (.int l3), some (.int l4), some (.int l5), none] [] I J k else zd S 32 20 [some (.ref 55), some (.ref (7 + 12 * s1)), some (.int l2), some (.int l3), some (.int l4), some (.int l5), none] [] I J k := by
  refine (tt_fk rfl rfl).trans ?_
  refine (tt_il rfl).trans ?_
  refine (tt_f rfl).trans ?_
  refine (tt_al rfl).trans ?_
  refine (tt_f rfl).trans ?_
  refine (tt_gi rfl rfl).trans ?_
  refine (tt_f rfl).trans ?_
  exact tt_f2 (p := fun x y => y ≤ x) inferInstance rfl
theorem B32_20 {l2 : Int32} {l3 : Int32} {l4 : Int32} {l5 : Int32} {s1 : Nat} (hs1 : s1 < 4) : zd S 32 20 [some (.ref 55), some (.ref (7 + 12 * s1)), some (.int l2), some (.int l3), some (.int l4), some (.int l5), none] [] I J k = if (I 55 6) ≤ l4 then zd S 32 71 [some (.ref 55), some (.ref (7 + 12 * s1)), some (.int l2), some (.int l3), some (.int l4), some (.int l5), none] [] I J k else zd S 32 29 [some (.ref 55), some (.ref (7 + 12 * s1)), some (.int l2), some (.int l3), some (.int l4), some (.int l5), none] [] I J k := by
  refine (tt_f rfl).trans ?_
  refine (tt_il rfl).trans ?_
  refine (tt_f rfl).trans ?_
  refine (tt_al rfl).trans ?_
  refine (tt_f rfl).trans ?_
  refine (tt_gi rfl rfl).trans ?_
  refine (tt_f rfl).trans ?_
  exact tt_f2 (p := fun x y => y ≤ x) inferInstance rfl
theorem B32_29 {l2 : Int32} {l3 : Int32} {l4 : Int32} {l5 : Int32} {s1 : Nat} {I3 : zI} {J4 : zJ} (hb : Nat.ble k.1 (mBu 32).1 = true ∧ Nat.ble k.2 (mBu 32).2 = true) (hs1 : s1 < 4) (hi1 : zin l4 208 = true) (hi2 : zin (I 64 l4.toNatClampNeg) 208 = true) (hq : zq S 91 [.ref (7 + 12 * s1), .int (l2 + l4), .int (l2 + (I 64 l4.toNatClampNeg)), .int (I 62 (I 64 l4.toNatClampNeg).toNatClampNeg)] I J none I3 J4) : zd S 32 29 [some (.ref 55), some (.ref (7 + 12 * s1)), some (.int l2), some (.int l3), some (.int l4), some (.int l5), none] [] I J k = zd S 32 57 [some (.ref 55), some (.ref (7 + 12 * s1)), some (.int l2), some (.int l3), some (.int l4), some (.int l5), some (.int (I 64 l4.toNatClampNeg))] [] I3 J4 k := by
  refine (tt_f rfl).trans ?_
  refine (tt_al rfl).trans ?_
  refine (tt_f rfl).trans ?_
  refine (tt_gr rfl rfl).trans ?_
  refine (tt_f rfl).trans ?_
  refine (tt_il rfl).trans ?_
  refine (tt_f rfl).trans ?_
  refine (tt_ga rfl rfl hi1).trans ?_
  refine (tt_f rfl).trans ?_
  refine (tt_is rfl rfl).trans ?_
  refine (tt_f rfl).trans ?_
  refine (tt_al rfl).trans ?_
  refine (tt_f rfl).trans ?_
  refine (tt_il rfl).trans ?_
  refine (tt_f rfl).trans ?_
  refine (tt_il rfl).trans ?_
  refine (tt_f rfl).trans ?_
  refine tt_bi.trans ?_
  refine (tt_f rfl).trans ?_
  refine (tt_il rfl).trans ?_
  refine (tt_f rfl).trans ?_
  refine (tt_il rfl).trans ?_
  refine (tt_f rfl).trans ?_
  refine tt_bi.trans ?_
  refine (tt_f rfl).trans ?_
  refine (tt_al rfl).trans ?_
  refine (tt_f rfl).trans ?_
  refine (tt_gr rfl rfl).trans ?_
  refine (tt_f rfl).trans ?_
  refine (tt_il rfl).trans ?_
  refine (tt_f rfl).trans ?_
  refine (tt_ga rfl rfl hi2).trans ?_
  exact tt_cv (As := [.int (l2 + l4), .int (l2 + (I 64 l4.toNatClampNeg)), .int (I 62 (I 64 l4.toNatClampNeg).toNatClampNeg)]) rfl hb.1 hb.2 rfl rfl rfl rfl (shS hs1) hq
theorem B32_57 {l2 : Int32} {l3 : Int32} {l4 : Int32} {l5 : Int32} {l6 : Int32} {s1 : Nat} {v1 : Int32} {I2 : zI} {J3 : zJ} (hb : Nat.ble k.1 (mBu 32).1 = true ∧ Nat.ble k.2 (mBu 32).2 = true) (hs1 : s1 < 4) (hq : zq S 31 [.ref 55, .int l6] I J (some (.int v1)) I2 J3) : zd S 32 57 [some (.ref 55), some (.ref (7 + 12 * s1)), some (.int l2), some (.int l3), some (.int l4), some (.int l5), some (.int l6)] [] I J k = zd S 32 63 [some (.ref 55), some (.ref (7 + 12 * s1)), some (.int l2), some (.int l3), some (.int l4), some (.int l5), some (.int l6)] [.int v1] I2 J3 k := by
  refine (tt_f rfl).trans ?_
  refine (tt_al rfl).trans ?_
  refine (tt_f rfl).trans ?_
  refine (tt_il rfl).trans ?_
  exact tt_cv (As := [.int l6]) rfl hb.1 hb.2 rfl rfl rfl rfl rfl hq
theorem B32_63 {l2 : Int32} {l3 : Int32} {l4 : Int32} {l5 : Int32} {l6 : Int32} {t0 : Int32} {s1 : Nat} (hs1 : s1 < 4) : zd S 32 63 [some (.ref 55), some (.ref (7 + 12 * s1)), some (.int l2), some (.int l3), some (.int l4), some (.int l5), some (.int l6)] [.int t0] I J k = zd S 32 11 [some (.ref 55), some (.ref (7 + 12 * s1)), some (.int l2), some (.int l3), some (.int t0), some (.int (l5 + 1)), some (.int l6)] [] I J k := by
  refine (tt_f rfl).trans ?_
  refine (tt_is rfl rfl).trans ?_
  refine (tt_f rfl).trans ?_
  refine (tt_in rfl rfl).trans ?_
  refine (tt_f rfl).trans ?_
  refine tt_go.trans ?_
  rfl
theorem B32_71 {l2 : Int32} {l3 : Int32} {l4 : Int32} {l5 : Int32} {s1 : Nat} {I1 : zI} {J2 : zJ} (hb : Nat.ble k.1 (mBu 32).1 = true ∧ Nat.ble k.2 (mBu 32).2 = true) (hs1 : s1 < 4) (hq : zq S 92 [.ref (7 + 12 * s1), .int l3] I J none I1 J2) : zd S 32 71 [some (.ref 55), some (.ref (7 + 12 * s1)), some (.int l2), some (.int l3), some (.int l4), some (.int l5), none] [] I J k = zd S 32 76 [none, some (.ref (7 + 12 * s1)), none, some (.int l3), none, none, none] [] I1 J2 k := by
  refine (tt_fk rfl rfl).trans ?_
  refine (tt_al rfl).trans ?_
  refine (tt_f rfl).trans ?_
  refine (tt_il rfl).trans ?_
  exact tt_cv (As := [.int l3]) rfl hb.1 hb.2 rfl rfl rfl rfl (shS hs1) hq
theorem B32_76 {l3 : Int32} {s1 : Nat} (hs1 : s1 < 4) : zd S 32 76 [none, some (.ref (7 + 12 * s1)), none, some (.int l3), none, none, none] [] I J k = some (none, mk I J, k) := by
  exact tt_rv rfl
/-! 34: Columns.setRooms -/
theorem B34_0 {l2 : Int32} {l3 : Int32} {l4 : Int32} {l5 : Int32} {s1 : Nat} (hs1 : s1 < 4) : zd S 34 0 [some (.ref 66), some (.ref (7 + 12 * s1)), some (.int l2), some (.int l3), some (.int l4), some (.int l5), none, none] [] I J k = if ¬ l2 = 0 then zd S 34 11 [some (.ref 66), some (.ref (7 + 12 * s1)), some (.int l2), some (.int l3), some (.int l4), some (.int l5), none, none] [] I J k else zd S 34 4 [some (.ref 66), some (.ref (7 + 12 * s1)), some (.int l2), some (.int l3), some (.int l4), some (.int l5), none, none] [] I J k := by
  refine (tt_f rfl).trans ?_
  refine (tt_il rfl).trans ?_
  refine (tt_f rfl).trans ?_
  exact tt_f1 (p := fun x => ¬ x = 0) inferInstance rfl
theorem B34_4 {l2 : Int32} {l3 : Int32} {l4 : Int32} {l5 : Int32} {s1 : Nat} (hs1 : s1 < 4) : zd S 34 4 [some (.ref 66), some (.ref (7 + 12 * s1)), some (.int l2), some (.int l3), some (.int l4), some (.int l5), none, none] [] I J k = if (I (7 + 12 * s1) 12) ≤ l3 then zd S 34 22 [some (.ref 66), some (.ref (7 + 12 * s1)), none, some (.int l3), some (.int l4), some (.int l5), some (.int (I (7 + 12 * s1) 12)), none] [] I J k else zd S 34 20 [some (.ref 66), some (.ref (7 + 12 * s1)), none, some (.int l3), some (.int l4), some (.int l5), some (.int (I (7 + 12 * s1) 12)), none] [] I J k := by
  refine (tt_f rfl).trans ?_
  refine (tt_al rfl).trans ?_
  refine (tt_f rfl).trans ?_
  refine (tt_gi (shS hs1) rfl).trans ?_
  refine (tt_f rfl).trans ?_
  refine tt_go.trans ?_
  refine (tt_fk rfl rfl).trans ?_
  refine (tt_is rfl rfl).trans ?_
  refine (tt_f rfl).trans ?_
  refine (tt_il rfl).trans ?_
  refine (tt_f rfl).trans ?_
  refine (tt_il rfl).trans ?_
  refine (tt_f rfl).trans ?_
  exact tt_f2 (p := fun x y => x ≤ y) inferInstance rfl
theorem B34_11 {l2 : Int32} {l3 : Int32} {l4 : Int32} {l5 : Int32} {s1 : Nat} (hs1 : s1 < 4) : zd S 34 11 [some (.ref 66), some (.ref (7 + 12 * s1)), some (.int l2), some (.int l3), some (.int l4), some (.int l5), none, none] [] I J k = if 0 ≤ l3 then zd S 34 22 [some (.ref 66), some (.ref (7 + 12 * s1)), none, some (.int l3), some (.int l4), some (.int l5), some (.int 0), none] [] I J k else zd S 34 20 [some (.ref 66), some (.ref (7 + 12 * s1)), none, some (.int l3), some (.int l4), some (.int l5), some (.int 0), none] [] I J k := by
  refine (tt_f rfl).trans ?_
  refine tt_c.trans ?_
  refine (tt_fk rfl rfl).trans ?_
  refine (tt_is rfl rfl).trans ?_
  refine (tt_f rfl).trans ?_
  refine (tt_il rfl).trans ?_
  refine (tt_f rfl).trans ?_
  refine (tt_il rfl).trans ?_
  refine (tt_f rfl).trans ?_
  exact tt_f2 (p := fun x y => x ≤ y) inferInstance rfl
theorem B34_20 {l3 : Int32} {l4 : Int32} {l5 : Int32} {l6 : Int32} {s1 : Nat} (hs1 : s1 < 4) (hz : zrt 2 (.int 0) = true) : zd S 34 20 [some (.ref 66), some (.ref (7 + 12 * s1)), none, some (.int l3), some (.int l4), some (.int l5), some (.int l6), none] [] I J k = some ((some (.int 0)), mk I J, k) := by
  refine (tt_f rfl).trans ?_
  refine tt_c.trans ?_
  exact tt_r1 rfl hz
theorem B34_22 {l3 : Int32} {l4 : Int32} {l5 : Int32} {l6 : Int32} {s1 : Nat} (hs1 : s1 < 4) : zd S 34 22 [some (.ref 66), some (.ref (7 + 12 * s1)), none, some (.int l3), some (.int l4), some (.int l5), some (.int l6), none] [] I J k = zd S 34 27 [some (.ref 66), some (.ref (7 + 12 * s1)), none, some (.int l3), some (.int l4), some (.int l5), some (.int l6), none] [] (u2 I 66 2 l3) J k := by
  refine (tt_f rfl).trans ?_
  refine (tt_al rfl).trans ?_
  refine (tt_f rfl).trans ?_
  refine (tt_il rfl).trans ?_
  refine (tt_f rfl).trans ?_
  exact tt_pi rfl rfl rfl
theorem B34_27 {l3 : Int32} {l4 : Int32} {l5 : Int32} {l6 : Int32} {s1 : Nat} (hs1 : s1 < 4) : zd S 34 27 [some (.ref 66), some (.ref (7 + 12 * s1)), none, some (.int l3), some (.int l4), some (.int l5), some (.int l6), none] [] I J k = zd S 34 30 [some (.ref 66), some (.ref (7 + 12 * s1)), none, some (.int l3), some (.int l4), some (.int l5), some (.int l6), some (.int 0)] [] I J k := by
  refine (tt_f rfl).trans ?_
  refine tt_c.trans ?_
  refine (tt_f rfl).trans ?_
  refine (tt_is rfl rfl).trans ?_
  rfl
theorem B34_30 {l3 : Int32} {l4 : Int32} {l5 : Int32} {l6 : Int32} {l7 : Int32} {s1 : Nat} (hs1 : s1 < 4) : zd S 34 30 [some (.ref 66), some (.ref (7 + 12 * s1)), none, some (.int l3), some (.int l4), some (.int l5), some (.int l6), some (.int l7)] [] I J k = if l3 ≤ l7 then zd S 34 94 [some (.ref 66), some (.ref (7 + 12 * s1)), none, some (.int l3), some (.int l4), some (.int l5), some (.int l6), some (.int l7)] [] I J k else zd S 34 36 [some (.ref 66), some (.ref (7 + 12 * s1)), none, some (.int l3), some (.int l4), some (.int l5), some (.int l6), some (.int l7)] [] I J k := by
  refine (tt_fk rfl rfl).trans ?_
  refine (tt_il rfl).trans ?_
  refine (tt_f rfl).trans ?_
  refine (tt_il rfl).trans ?_
  refine (tt_f rfl).trans ?_
  exact tt_f2 (p := fun x y => y ≤ x) inferInstance rfl
theorem B34_36 {l3 : Int32} {l4 : Int32} {l5 : Int32} {l6 : Int32} {l7 : Int32} {s1 : Nat} (hs1 : s1 < 4) : zd S 34 36 [some (.ref 66), some (.ref (7 + 12 * s1)), none, some (.int l3), some (.int l4), some (.int l5), some (.int l6), some (.int l7)] [] I J k = if l6 ≤ l7 then zd S 34 58 [some (.ref 66), some (.ref (7 + 12 * s1)), none, some (.int l3), some (.int l4), some (.int l5), some (.int l6), some (.int l7)] [.int l4, .int l7, .ref 67] I J k else zd S 34 51 [some (.ref 66), some (.ref (7 + 12 * s1)), none, some (.int l3), some (.int l4), some (.int l5), some (.int l6), some (.int l7)] [.int l4, .int l7, .ref 67] I J k := by
  refine (tt_f rfl).trans ?_
  refine (tt_al rfl).trans ?_
  refine (tt_f rfl).trans ?_
  refine (tt_gr rfl rfl).trans ?_
  refine (tt_f rfl).trans ?_
  refine (tt_il rfl).trans ?_
  refine (tt_f rfl).trans ?_
  refine (tt_il rfl).trans ?_
  refine (tt_f rfl).trans ?_
  refine (tt_il rfl).trans ?_
  refine (tt_f rfl).trans ?_
  refine (tt_il rfl).trans ?_
  refine (tt_f rfl).trans ?_
  exact tt_f2 (p := fun x y => y ≤ x) inferInstance rfl
theorem B34_51 {l3 : Int32} {l4 : Int32} {l5 : Int32} {l6 : Int32} {l7 : Int32} {t1 : Int32} {t2 : Int32} {s1 : Nat} (hs1 : s1 < 4) : zd S 34 51 [some (.ref 66), some (.ref (7 + 12 * s1)), none, some (.int l3), some (.int l4), some (.int l5), some (.int l6), some (.int l7)] [.int t2, .int t1, .ref 67] I J k = if ¬ l7 = (l3 - 1) then zd S 34 73 [some (.ref 66), some (.ref (7 + 12 * s1)), none, some (.int l3), some (.int l4), some (.int l5), some (.int l6), some (.int l7)] [.int (t2 - (I (7 + 12 * s1) 13)), .int t1, .ref 67] I J k else zd S 34 68 [some (.ref 66), some (.ref (7 + 12 * s1)), none, some (.int l3), some (.int l4), some (.int l5), some (.int l6), some (.int l7)] [.int (t2 - (I (7 + 12 * s1) 13)), .int t1, .ref 67] I J k := by
  refine (tt_f rfl).trans ?_
  refine (tt_al rfl).trans ?_
  refine (tt_f rfl).trans ?_
  refine (tt_gi (shS hs1) rfl).trans ?_
  refine (tt_f rfl).trans ?_
  refine tt_go.trans ?_
  refine (tt_fk rfl rfl).trans ?_
  refine tt_bi.trans ?_
  refine (tt_f rfl).trans ?_
  refine (tt_il rfl).trans ?_
  refine (tt_f rfl).trans ?_
  refine (tt_il rfl).trans ?_
  refine (tt_f rfl).trans ?_
  refine tt_c.trans ?_
  refine (tt_f rfl).trans ?_
  refine tt_bi.trans ?_
  refine (tt_f rfl).trans ?_
  exact tt_f2 (p := fun x y => ¬ x = y) inferInstance rfl
theorem B34_58 {l3 : Int32} {l4 : Int32} {l5 : Int32} {l6 : Int32} {l7 : Int32} {t1 : Int32} {t2 : Int32} {s1 : Nat} (hs1 : s1 < 4) : zd S 34 58 [some (.ref 66), some (.ref (7 + 12 * s1)), none, some (.int l3), some (.int l4), some (.int l5), some (.int l6), some (.int l7)] [.int t2, .int t1, .ref 67] I J k = if ¬ l7 = (l3 - 1) then zd S 34 73 [some (.ref 66), some (.ref (7 + 12 * s1)), none, some (.int l3), some (.int l4), some (.int l5), some (.int l6), some (.int l7)] [.int (t2 - 0), .int t1, .ref 67] I J k else zd S 34 68 [some (.ref 66), some (.ref (7 + 12 * s1)), none, some (.int l3), some (.int l4), some (.int l5), some (.int l6), some (.int l7)] [.int (t2 - 0), .int t1, .ref 67] I J k := by
  refine (tt_f rfl).trans ?_
  refine tt_c.trans ?_
  refine (tt_fk rfl rfl).trans ?_
  refine tt_bi.trans ?_
  refine (tt_f rfl).trans ?_
  refine (tt_il rfl).trans ?_
  refine (tt_f rfl).trans ?_
  refine (tt_il rfl).trans ?_
  refine (tt_f rfl).trans ?_
  refine tt_c.trans ?_
  refine (tt_f rfl).trans ?_
  refine tt_bi.trans ?_
  refine (tt_f rfl).trans ?_
  exact tt_f2 (p := fun x y => ¬ x = y) inferInstance rfl
theorem B34_68 {l3 : Int32} {l4 : Int32} {l5 : Int32} {l6 : Int32} {l7 : Int32} {t1 : Int32} {t2 : Int32} {s1 : Nat} (hs1 : s1 < 4) (hi1 : zin t1 4 = true) : zd S 34 68 [some (.ref 66), some (.ref (7 + 12 * s1)), none, some (.int l3), some (.int l4), some (.int l5), some (.int l6), some (.int l7)] [.int t2, .int t1, .ref 67] I J k = zd S 34 76 [some (.ref 66), some (.ref (7 + 12 * s1)), none, some (.int l3), some (.int l4), some (.int l5), some (.int l6), some (.int l7)] [] (u2 I 67 t1.toNatClampNeg (t2 - l5)) J k := by
  refine (tt_f rfl).trans ?_
  refine (tt_il rfl).trans ?_
  refine (tt_f rfl).trans ?_
  refine tt_go.trans ?_
  refine (tt_fk rfl rfl).trans ?_
  refine tt_bi.trans ?_
  refine (tt_f rfl).trans ?_
  exact tt_pa rfl rfl hi1
theorem B34_73 {l3 : Int32} {l4 : Int32} {l5 : Int32} {l6 : Int32} {l7 : Int32} {t1 : Int32} {t2 : Int32} {s1 : Nat} (hs1 : s1 < 4) (hi1 : zin t1 4 = true) : zd S 34 73 [some (.ref 66), some (.ref (7 + 12 * s1)), none, some (.int l3), some (.int l4), some (.int l5), some (.int l6), some (.int l7)] [.int t2, .int t1, .ref 67] I J k = zd S 34 76 [some (.ref 66), some (.ref (7 + 12 * s1)), none, some (.int l3), some (.int l4), some (.int l5), some (.int l6), some (.int l7)] [] (u2 I 67 t1.toNatClampNeg (t2 - 0)) J k := by
  refine (tt_f rfl).trans ?_
  refine tt_c.trans ?_
  refine (tt_fk rfl rfl).trans ?_
  refine tt_bi.trans ?_
  refine (tt_f rfl).trans ?_
  exact tt_pa rfl rfl hi1
theorem B34_76 {l3 : Int32} {l4 : Int32} {l5 : Int32} {l6 : Int32} {l7 : Int32} {s1 : Nat} (hs1 : s1 < 4) (hi1 : zin l7 4 = true) : zd S 34 76 [some (.ref 66), some (.ref (7 + 12 * s1)), none, some (.int l3), some (.int l4), some (.int l5), some (.int l6), some (.int l7)] [] I J k = if 0 ≤ (I 67 l7.toNatClampNeg) then zd S 34 88 [some (.ref 66), some (.ref (7 + 12 * s1)), none, some (.int l3), some (.int l4), some (.int l5), some (.int l6), some (.int l7)] [] I J k else zd S 34 86 [some (.ref 66), some (.ref (7 + 12 * s1)), none, some (.int l3), some (.int l4), some (.int l5), some (.int l6), some (.int l7)] [] I J k := by
  refine (tt_f rfl).trans ?_
  refine (tt_al rfl).trans ?_
  refine (tt_f rfl).trans ?_
  refine (tt_gr rfl rfl).trans ?_
  refine (tt_f rfl).trans ?_
  refine (tt_il rfl).trans ?_
  refine (tt_f rfl).trans ?_
  refine (tt_ga rfl rfl hi1).trans ?_
  refine (tt_f rfl).trans ?_
  exact tt_f1 (p := fun x => 0 ≤ x) inferInstance rfl
theorem B34_86 {l3 : Int32} {l4 : Int32} {l5 : Int32} {l6 : Int32} {l7 : Int32} {s1 : Nat} (hs1 : s1 < 4) (hz : zrt 2 (.int 0) = true) : zd S 34 86 [some (.ref 66), some (.ref (7 + 12 * s1)), none, some (.int l3), some (.int l4), some (.int l5), some (.int l6), some (.int l7)] [] I J k = some ((some (.int 0)), mk I J, k) := by
  refine (tt_f rfl).trans ?_
  refine tt_c.trans ?_
  exact tt_r1 rfl hz
theorem B34_88 {l3 : Int32} {l4 : Int32} {l5 : Int32} {l6 : Int32} {l7 : Int32} {s1 : Nat} (hs1 : s1 < 4) : zd S 34 88 [some (.ref 66), some (.ref (7 + 12 * s1)), none, some (.int l3), some (.int l4), some (.int l5), some (.int l6), some (.int l7)] [] I J k = zd S 34 30 [some (.ref 66), some (.ref (7 + 12 * s1)), none, some (.int l3), some (.int l4), some (.int l5), some (.int l6), some (.int (l7 + 1))] [] I J k := by
  refine (tt_f rfl).trans ?_
  refine (tt_in rfl rfl).trans ?_
  refine (tt_f rfl).trans ?_
  refine tt_go.trans ?_
  rfl
theorem B34_94 {l3 : Int32} {l4 : Int32} {l5 : Int32} {l6 : Int32} {l7 : Int32} {s1 : Nat} (hs1 : s1 < 4) (hz : zrt 2 (.int 1) = true) : zd S 34 94 [some (.ref 66), some (.ref (7 + 12 * s1)), none, some (.int l3), some (.int l4), some (.int l5), some (.int l6), some (.int l7)] [] I J k = some ((some (.int 1)), mk I J, k) := by
  refine (tt_f rfl).trans ?_
  refine tt_c.trans ?_
  exact tt_r1 rfl hz
/-! 35: Columns.endsFrom -/
theorem B35_0 {l1 : Int32} {l2 : Int64}  : zd S 35 0 [some (.ref 66), some (.int l1), some (.long l2), none, none, none, none, none, none, none] [] I J k = zd S 35 8 [some (.ref 66), some (.int l1), some (.long l2), none, some (.long (1 <<< (l1.toInt64 &&& 63))), none, some (.int 0), none, none, none] [] I J k := by
  refine (tt_f rfl).trans ?_
  refine tt_c.trans ?_
  refine (tt_f rfl).trans ?_
  refine (tt_il rfl).trans ?_
  refine (tt_f rfl).trans ?_
  refine tt_sl.trans ?_
  refine (tt_f rfl).trans ?_
  refine (tt_ls rfl rfl).trans ?_
  refine (tt_f rfl).trans ?_
  refine tt_c.trans ?_
  refine (tt_f rfl).trans ?_
  refine (tt_is rfl rfl).trans ?_
  rfl
theorem B35_8 {o1 : Option Value} {l2 : Int64} {l4 : Int64} {l6 : Int32} {o7 : Option Value} {o9 : Option Value}  : zd S 35 8 [some (.ref 66), o1, some (.long l2), none, some (.long l4), none, some (.int l6), o7, none, o9] [] I J k = if (I 66 2) ≤ l6 then zd S 35 63 [some (.ref 66), none, some (.long l2), none, some (.long l4), none, some (.int l6), none, none, none] [] I J k else zd S 35 17 [some (.ref 66), none, some (.long l2), none, some (.long l4), none, some (.int l6), none, none, none] [] I J k := by
  refine (tt_fk rfl rfl).trans ?_
  refine (tt_il rfl).trans ?_
  refine (tt_f rfl).trans ?_
  refine (tt_al rfl).trans ?_
  refine (tt_f rfl).trans ?_
  refine (tt_gi rfl rfl).trans ?_
  refine (tt_f rfl).trans ?_
  exact tt_f2 (p := fun x y => y ≤ x) inferInstance rfl
theorem B35_17 {l2 : Int64} {l4 : Int64} {l6 : Int32}  : zd S 35 17 [some (.ref 66), none, some (.long l2), none, some (.long l4), none, some (.int l6), none, none, none] [] I J k = zd S 35 23 [some (.ref 66), none, some (.long l2), none, some (.long l4), none, some (.int l6), some (.long 0), none, some (.int 0)] [] I J k := by
  refine (tt_f rfl).trans ?_
  refine tt_c.trans ?_
  refine (tt_f rfl).trans ?_
  refine (tt_ls rfl rfl).trans ?_
  refine (tt_f rfl).trans ?_
  refine tt_c.trans ?_
  refine (tt_f rfl).trans ?_
  refine (tt_is rfl rfl).trans ?_
  rfl
theorem B35_23 {l2 : Int64} {l4 : Int64} {l6 : Int32} {l7 : Int64} {l9 : Int32} (hi1 : zin l6 4 = true) : zd S 35 23 [some (.ref 66), none, some (.long l2), none, some (.long l4), none, some (.int l6), some (.long l7), none, some (.int l9)] [] I J k = if (I 67 l6.toNatClampNeg) < l9 then zd S 35 51 [some (.ref 66), none, some (.long l2), none, some (.long l4), none, some (.int l6), some (.long l7), none, some (.int l9)] [] I J k else zd S 35 35 [some (.ref 66), none, some (.long l2), none, some (.long l4), none, some (.int l6), some (.long l7), none, some (.int l9)] [] I J k := by
  refine (tt_fk rfl rfl).trans ?_
  refine (tt_il rfl).trans ?_
  refine (tt_f rfl).trans ?_
  refine (tt_al rfl).trans ?_
  refine (tt_f rfl).trans ?_
  refine (tt_gr rfl rfl).trans ?_
  refine (tt_f rfl).trans ?_
  refine (tt_il rfl).trans ?_
  refine (tt_f rfl).trans ?_
  refine (tt_ga rfl rfl hi1).trans ?_
  refine (tt_f rfl).trans ?_
  exact tt_f2 (p := fun x y => y < x) inferInstance rfl
theorem B35_35 {l2 : Int64} {l4 : Int64} {l6 : Int32} {l7 : Int64} {l9 : Int32}  : zd S 35 35 [some (.ref 66), none, some (.long l2), none, some (.long l4), none, some (.int l6), some (.long l7), none, some (.int l9)] [] I J k = zd S 35 23 [some (.ref 66), none, some (.long l2), none, some (.long l4), none, some (.int l6), some (.long (l7 ||| (l4 <<< (l9.toInt64 &&& 63)))), none, some (.int (l9 + 1))] [] I J k := by
  refine (tt_f rfl).trans ?_
  refine (tt_ll rfl).trans ?_
  refine (tt_f rfl).trans ?_
  refine (tt_ll rfl).trans ?_
  refine (tt_f rfl).trans ?_
  refine (tt_il rfl).trans ?_
  refine (tt_f rfl).trans ?_
  refine tt_sl.trans ?_
  refine (tt_f rfl).trans ?_
  refine tt_bl.trans ?_
  refine (tt_f rfl).trans ?_
  refine (tt_ls rfl rfl).trans ?_
  refine (tt_f rfl).trans ?_
  refine (tt_in rfl rfl).trans ?_
  refine (tt_f rfl).trans ?_
  refine tt_go.trans ?_
  rfl
theorem B35_51 {l2 : Int64} {l4 : Int64} {l6 : Int32} {l7 : Int64} {l9 : Int32}  : zd S 35 51 [some (.ref 66), none, some (.long l2), none, some (.long l4), none, some (.int l6), some (.long l7), none, some (.int l9)] [] I J k = zd S 35 8 [some (.ref 66), none, some (.long l2), none, some (.long (l7 &&& l2)), none, some (.int (l6 + 1)), some (.long l7), none, some (.int l9)] [] I J k := by
  refine (tt_f rfl).trans ?_
  refine (tt_ll rfl).trans ?_
  refine (tt_f rfl).trans ?_
  refine (tt_ll rfl).trans ?_
  refine (tt_f rfl).trans ?_
  refine tt_bl.trans ?_
  refine (tt_f rfl).trans ?_
  refine (tt_ls rfl rfl).trans ?_
  refine (tt_f rfl).trans ?_
  refine (tt_in rfl rfl).trans ?_
  refine (tt_f rfl).trans ?_
  refine tt_go.trans ?_
  rfl
theorem B35_63 {l2 : Int64} {l4 : Int64} {l6 : Int32}  : zd S 35 63 [some (.ref 66), none, some (.long l2), none, some (.long l4), none, some (.int l6), none, none, none] [] I J k = some ((some (.long l4)), mk I J, k) := by
  refine (tt_f rfl).trans ?_
  refine (tt_ll rfl).trans ?_
  exact tt_r1 rfl rfl
/-! 36: Columns.fill -/
theorem B36_0 {l1 : Int32} {l2 : Int32} {l3 : Int64} {s5 : Nat} {p5 : Nat} (hs5 : s5 < 4) (hp5 : p5 < 2) (hi1 : zin (I 66 2) 5 = true) : zd S 36 0 [some (.ref 66), some (.int l1), some (.int l2), some (.long l3), none, some (.ref (16 + 12 * s5 + 2 * p5)), none, none, none, none] [] I J k = zd S 36 12 [some (.ref 66), some (.int l1), some (.int l2), some (.long l3), none, some (.ref (16 + 12 * s5 + 2 * p5)), none, none, none, none] [] I (v2 J 68 (I 66 2).toNatClampNeg (1 <<< (l2.toInt64 &&& 63))) k := by
  refine (tt_f rfl).trans ?_
  refine (tt_al rfl).trans ?_
  refine (tt_f rfl).trans ?_
  refine (tt_gr rfl rfl).trans ?_
  refine (tt_f rfl).trans ?_
  refine (tt_al rfl).trans ?_
  refine (tt_f rfl).trans ?_
  refine (tt_gi rfl rfl).trans ?_
  refine (tt_f rfl).trans ?_
  refine tt_c.trans ?_
  refine (tt_f rfl).trans ?_
  refine (tt_il rfl).trans ?_
  refine (tt_f rfl).trans ?_
  refine tt_sl.trans ?_
  refine (tt_f rfl).trans ?_
  exact tt_pl rfl hi1
theorem B36_12 {l1 : Int32} {l2 : Int32} {l3 : Int64} {s5 : Nat} {p5 : Nat} (hs5 : s5 < 4) (hp5 : p5 < 2) : zd S 36 12 [some (.ref 66), some (.int l1), some (.int l2), some (.long l3), none, some (.ref (16 + 12 * s5 + 2 * p5)), none, none, none, none] [] I J k = zd S 36 20 [some (.ref 66), some (.int l1), some (.int l2), some (.long l3), none, some (.ref (16 + 12 * s5 + 2 * p5)), some (.int ((I 66 2) - 1)), none, none, none] [] I J k := by
  refine (tt_f rfl).trans ?_
  refine (tt_al rfl).trans ?_
  refine (tt_f rfl).trans ?_
  refine (tt_gi rfl rfl).trans ?_
  refine (tt_f rfl).trans ?_
  refine tt_c.trans ?_
  refine (tt_f rfl).trans ?_
  refine tt_bi.trans ?_
  refine (tt_f rfl).trans ?_
  refine (tt_is rfl rfl).trans ?_
  rfl
theorem B36_20 {l1 : Int32} {o2 : Option Value} {l3 : Int64} {l6 : Int32} {o7 : Option Value} {o9 : Option Value} {s5 : Nat} {p5 : Nat} (hs5 : s5 < 4) (hp5 : p5 < 2) : zd S 36 20 [some (.ref 66), some (.int l1), o2, some (.long l3), none, some (.ref (16 + 12 * s5 + 2 * p5)), some (.int l6), o7, none, o9] [] I J k = if l6 ≤ 0 then zd S 36 83 [some (.ref 66), some (.int l1), none, some (.long l3), none, some (.ref (16 + 12 * s5 + 2 * p5)), some (.int l6), none, none, none] [] I J k else zd S 36 25 [some (.ref 66), some (.int l1), none, some (.long l3), none, some (.ref (16 + 12 * s5 + 2 * p5)), some (.int l6), none, none, none] [] I J k := by
  refine (tt_fk rfl rfl).trans ?_
  refine (tt_il rfl).trans ?_
  refine (tt_f rfl).trans ?_
  exact tt_f1 (p := fun x => x ≤ 0) inferInstance rfl
theorem B36_25 {l1 : Int32} {l3 : Int64} {l6 : Int32} {s5 : Nat} {p5 : Nat} (hs5 : s5 < 4) (hp5 : p5 < 2) : zd S 36 25 [some (.ref 66), some (.int l1), none, some (.long l3), none, some (.ref (16 + 12 * s5 + 2 * p5)), some (.int l6), none, none, none] [] I J k = zd S 36 31 [some (.ref 66), some (.int l1), none, some (.long l3), none, some (.ref (16 + 12 * s5 + 2 * p5)), some (.int l6), some (.long 0), none, some (.int 0)] [] I J k := by
  refine (tt_f rfl).trans ?_
  refine tt_c.trans ?_
  refine (tt_f rfl).trans ?_
  refine (tt_ls rfl rfl).trans ?_
  refine (tt_f rfl).trans ?_
  refine tt_c.trans ?_
  refine (tt_f rfl).trans ?_
  refine (tt_is rfl rfl).trans ?_
  rfl
theorem B36_31 {l1 : Int32} {l3 : Int64} {l6 : Int32} {l7 : Int64} {l9 : Int32} {s5 : Nat} {p5 : Nat} (hs5 : s5 < 4) (hp5 : p5 < 2) (hi1 : zin l6 4 = true) : zd S 36 31 [some (.ref 66), some (.int l1), none, some (.long l3), none, some (.ref (16 + 12 * s5 + 2 * p5)), some (.int l6), some (.long l7), none, some (.int l9)] [] I J k = if (I 67 l6.toNatClampNeg) < l9 then zd S 36 66 [some (.ref 66), some (.int l1), none, some (.long l3), none, some (.ref (16 + 12 * s5 + 2 * p5)), some (.int l6), some (.long l7), none, some (.int l9)] [] I J k else zd S 36 43 [some (.ref 66), some (.int l1), none, some (.long l3), none, some (.ref (16 + 12 * s5 + 2 * p5)), some (.int l6), some (.long l7), none, some (.int l9)] [] I J k := by
  refine (tt_fk rfl rfl).trans ?_
  refine (tt_il rfl).trans ?_
  refine (tt_f rfl).trans ?_
  refine (tt_al rfl).trans ?_
  refine (tt_f rfl).trans ?_
  refine (tt_gr rfl rfl).trans ?_
  refine (tt_f rfl).trans ?_
  refine (tt_il rfl).trans ?_
  refine (tt_f rfl).trans ?_
  refine (tt_ga rfl rfl hi1).trans ?_
  refine (tt_f rfl).trans ?_
  exact tt_f2 (p := fun x y => y < x) inferInstance rfl
theorem B36_43 {l1 : Int32} {l3 : Int64} {l6 : Int32} {l7 : Int64} {l9 : Int32} {s5 : Nat} {p5 : Nat} (hs5 : s5 < 4) (hp5 : p5 < 2) (hi1 : zin (l6 + 1) 5 = true) : zd S 36 43 [some (.ref 66), some (.int l1), none, some (.long l3), none, some (.ref (16 + 12 * s5 + 2 * p5)), some (.int l6), some (.long l7), none, some (.int l9)] [] I J k = zd S 36 31 [some (.ref 66), some (.int l1), none, some (.long l3), none, some (.ref (16 + 12 * s5 + 2 * p5)), some (.int l6), some (.long (l7 ||| (((J 68 (l6 + 1).toNatClampNeg)).toUInt64 >>> (l9.toInt64.toUInt64 &&& Int64.toUInt64 63)).toInt64)), none, some (.int (l9 + 1))] [] I J k := by
  refine (tt_f rfl).trans ?_
  refine (tt_ll rfl).trans ?_
  refine (tt_f rfl).trans ?_
  refine (tt_al rfl).trans ?_
  refine (tt_f rfl).trans ?_
  refine (tt_gr rfl rfl).trans ?_
  refine (tt_f rfl).trans ?_
  refine (tt_il rfl).trans ?_
  refine (tt_f rfl).trans ?_
  refine tt_c.trans ?_
  refine (tt_f rfl).trans ?_
  refine tt_bi.trans ?_
  refine (tt_f rfl).trans ?_
  refine (tt_gl rfl hi1).trans ?_
  refine (tt_f rfl).trans ?_
  refine (tt_il rfl).trans ?_
  refine (tt_f rfl).trans ?_
  refine tt_sl.trans ?_
  refine (tt_f rfl).trans ?_
  refine tt_bl.trans ?_
  refine (tt_f rfl).trans ?_
  refine (tt_ls rfl rfl).trans ?_
  refine (tt_f rfl).trans ?_
  refine (tt_in rfl rfl).trans ?_
  refine (tt_f rfl).trans ?_
  refine tt_go.trans ?_
  rfl
theorem B36_66 {l1 : Int32} {l3 : Int64} {l6 : Int32} {l7 : Int64} {l9 : Int32} {s5 : Nat} {p5 : Nat} (hs5 : s5 < 4) (hp5 : p5 < 2) (hi1 : zin l6 5 = true) : zd S 36 66 [some (.ref 66), some (.int l1), none, some (.long l3), none, some (.ref (16 + 12 * s5 + 2 * p5)), some (.int l6), some (.long l7), none, some (.int l9)] [] I J k = zd S 36 77 [some (.ref 66), some (.int l1), none, some (.long l3), none, some (.ref (16 + 12 * s5 + 2 * p5)), some (.int l6), some (.long l7), none, some (.int l9)] [] I (v2 J 68 l6.toNatClampNeg (l7 &&& l3)) k := by
  refine (tt_f rfl).trans ?_
  refine (tt_al rfl).trans ?_
  refine (tt_f rfl).trans ?_
  refine (tt_gr rfl rfl).trans ?_
  refine (tt_f rfl).trans ?_
  refine (tt_il rfl).trans ?_
  refine (tt_f rfl).trans ?_
  refine (tt_ll rfl).trans ?_
  refine (tt_f rfl).trans ?_
  refine (tt_ll rfl).trans ?_
  refine (tt_f rfl).trans ?_
  refine tt_bl.trans ?_
  refine (tt_f rfl).trans ?_
  exact tt_pl rfl hi1
theorem B36_77 {l1 : Int32} {l3 : Int64} {l6 : Int32} {l7 : Int64} {l9 : Int32} {s5 : Nat} {p5 : Nat} (hs5 : s5 < 4) (hp5 : p5 < 2) : zd S 36 77 [some (.ref 66), some (.int l1), none, some (.long l3), none, some (.ref (16 + 12 * s5 + 2 * p5)), some (.int l6), some (.long l7), none, some (.int l9)] [] I J k = zd S 36 20 [some (.ref 66), some (.int l1), none, some (.long l3), none, some (.ref (16 + 12 * s5 + 2 * p5)), some (.int (l6 + (-1))), some (.long l7), none, some (.int l9)] [] I J k := by
  refine (tt_f rfl).trans ?_
  refine (tt_in rfl rfl).trans ?_
  refine (tt_f rfl).trans ?_
  refine tt_go.trans ?_
  rfl
theorem B36_83 {l1 : Int32} {l3 : Int64} {l6 : Int32} {s5 : Nat} {p5 : Nat} {I1 : zI} {J2 : zJ} (hb : Nat.ble k.1 (mBu 36).1 = true ∧ Nat.ble k.2 (mBu 36).2 = true) (hs5 : s5 < 4) (hp5 : p5 < 2) (hq : zq S 149 [.ref (16 + 12 * s5 + 2 * p5), .int 0] I J none I1 J2) : zd S 36 83 [some (.ref 66), some (.int l1), none, some (.long l3), none, some (.ref (16 + 12 * s5 + 2 * p5)), some (.int l6), none, none, none] [] I J k = zd S 36 89 [some (.ref 66), some (.int l1), none, some (.long l3), none, some (.ref (16 + 12 * s5 + 2 * p5)), some (.int l6), none, none, none] [] I1 J2 k := by
  refine (tt_f rfl).trans ?_
  refine (tt_al rfl).trans ?_
  refine (tt_f rfl).trans ?_
  refine tt_c.trans ?_
  exact tt_cs (vs := [.ref (16 + 12 * s5 + 2 * p5), .int 0]) rfl hb.1 hb.2 rfl rfl rfl rfl hq
theorem B36_89 {l1 : Int32} {l3 : Int64} {l6 : Int32} {s5 : Nat} {p5 : Nat} (hs5 : s5 < 4) (hp5 : p5 < 2) : zd S 36 89 [some (.ref 66), some (.int l1), none, some (.long l3), none, some (.ref (16 + 12 * s5 + 2 * p5)), some (.int l6), none, none, none] [] I J k = zd S 36 95 [some (.ref 66), some (.int l1), none, some (.long l3), none, some (.ref (16 + 12 * s5 + 2 * p5)), some (.int l1), some (.int 0), none, none] [] I J k := by
  refine (tt_f rfl).trans ?_
  refine (tt_il rfl).trans ?_
  refine (tt_f rfl).trans ?_
  refine (tt_is rfl rfl).trans ?_
  refine (tt_f rfl).trans ?_
  refine tt_c.trans ?_
  refine (tt_f rfl).trans ?_
  refine (tt_is rfl rfl).trans ?_
  rfl
theorem B36_95 {o1 : Option Value} {o3 : Option Value} {l6 : Int32} {l7 : Int32} {s5 : Nat} {p5 : Nat} (hs5 : s5 < 4) (hp5 : p5 < 2) : zd S 36 95 [some (.ref 66), o1, none, o3, none, some (.ref (16 + 12 * s5 + 2 * p5)), some (.int l6), some (.int l7), none, none] [] I J k = if (I 66 2) ≤ l7 then zd S 36 133 [some (.ref 66), none, none, none, none, some (.ref (16 + 12 * s5 + 2 * p5)), some (.int l6), some (.int l7), none, none] [] I J k else zd S 36 104 [some (.ref 66), none, none, none, none, some (.ref (16 + 12 * s5 + 2 * p5)), some (.int l6), some (.int l7), none, none] [] I J k := by
  refine (tt_fk rfl rfl).trans ?_
  refine (tt_il rfl).trans ?_
  refine (tt_f rfl).trans ?_
  refine (tt_al rfl).trans ?_
  refine (tt_f rfl).trans ?_
  refine (tt_gi rfl rfl).trans ?_
  refine (tt_f rfl).trans ?_
  exact tt_f2 (p := fun x y => y ≤ x) inferInstance rfl
theorem B36_104 {l6 : Int32} {l7 : Int32} {s5 : Nat} {p5 : Nat} {v1 : Int32} {I2 : zI} {J3 : zJ} (hb : Nat.ble k.1 (mBu 36).1 = true ∧ Nat.ble k.2 (mBu 36).2 = true) (hs5 : s5 < 4) (hp5 : p5 < 2) (hq : zq S 37 [.ref 66, .int l7, .int l6] I J (some (.int v1)) I2 J3) : zd S 36 104 [some (.ref 66), none, none, none, none, some (.ref (16 + 12 * s5 + 2 * p5)), some (.int l6), some (.int l7), none, none] [] I J k = zd S 36 116 [some (.ref 66), none, none, none, none, some (.ref (16 + 12 * s5 + 2 * p5)), some (.int l6), some (.int l7), none, none] [.int v1, .int l7, .ref (16 + 12 * s5 + 2 * p5)] I2 J3 k := by
  refine (tt_f rfl).trans ?_
  refine (tt_al rfl).trans ?_
  refine (tt_f rfl).trans ?_
  refine (tt_il rfl).trans ?_
  refine (tt_f rfl).trans ?_
  refine (tt_al rfl).trans ?_
  refine (tt_f rfl).trans ?_
  refine (tt_il rfl).trans ?_
  refine (tt_f rfl).trans ?_
  refine (tt_il rfl).trans ?_
  exact tt_cv (As := [.int l7, .int l6]) rfl hb.1 hb.2 rfl rfl rfl rfl rfl hq
theorem B36_116 {l6 : Int32} {l7 : Int32} {t1 : Int32} {t2 : Int32} {s5 : Nat} {p5 : Nat} (hs5 : s5 < 4) (hp5 : p5 < 2) (hi1 : zin t1 4 = true) : zd S 36 116 [some (.ref 66), none, none, none, none, some (.ref (16 + 12 * s5 + 2 * p5)), some (.int l6), some (.int l7), none, none] [.int t2, .int t1, .ref (16 + 12 * s5 + 2 * p5)] I J k = zd S 36 117 [some (.ref 66), none, none, none, none, some (.ref (16 + 12 * s5 + 2 * p5)), some (.int l6), some (.int l7), none, none] [] (u2 I (16 + 12 * s5 + 2 * p5) t1.toNatClampNeg t2) J k := by
  refine (tt_f rfl).trans ?_
  exact tt_pa (shPa hs5 hp5) rfl hi1
theorem B36_117 {l6 : Int32} {l7 : Int32} {s5 : Nat} {p5 : Nat} (hs5 : s5 < 4) (hp5 : p5 < 2) (hi1 : zin l7 4 = true) : zd S 36 117 [some (.ref 66), none, none, none, none, some (.ref (16 + 12 * s5 + 2 * p5)), some (.int l6), some (.int l7), none, none] [] I J k = zd S 36 95 [some (.ref 66), none, none, none, none, some (.ref (16 + 12 * s5 + 2 * p5)), some (.int (l6 + (I (16 + 12 * s5 + 2 * p5) l7.toNatClampNeg))), some (.int (l7 + 1)), none, none] [] I J k := by
  refine (tt_f rfl).trans ?_
  refine (tt_il rfl).trans ?_
  refine (tt_f rfl).trans ?_
  refine (tt_al rfl).trans ?_
  refine (tt_f rfl).trans ?_
  refine (tt_il rfl).trans ?_
  refine (tt_f rfl).trans ?_
  refine (tt_ga (shPa hs5 hp5) rfl hi1).trans ?_
  refine (tt_f rfl).trans ?_
  refine tt_bi.trans ?_
  refine (tt_f rfl).trans ?_
  refine (tt_is rfl rfl).trans ?_
  refine (tt_f rfl).trans ?_
  refine (tt_in rfl rfl).trans ?_
  refine (tt_f rfl).trans ?_
  refine tt_go.trans ?_
  rfl
theorem B36_133 {l6 : Int32} {l7 : Int32} {s5 : Nat} {p5 : Nat} (hs5 : s5 < 4) (hp5 : p5 < 2) : zd S 36 133 [some (.ref 66), none, none, none, none, some (.ref (16 + 12 * s5 + 2 * p5)), some (.int l6), some (.int l7), none, none] [] I J k = some (none, mk I J, k) := by
  exact tt_rv rfl
/-! 37: Columns.mostFor -/
theorem B37_0 {l1 : Int32} {l2 : Int32} (hi1 : zin l1 4 = true) : zd S 37 0 [some (.ref 66), some (.int l1), some (.int l2), none] [] I J k = zd S 37 7 [some (.ref 66), some (.int l1), some (.int l2), some (.int (I 67 l1.toNatClampNeg))] [] I J k := by
  refine (tt_f rfl).trans ?_
  refine (tt_al rfl).trans ?_
  refine (tt_f rfl).trans ?_
  refine (tt_gr rfl rfl).trans ?_
  refine (tt_f rfl).trans ?_
  refine (tt_il rfl).trans ?_
  refine (tt_f rfl).trans ?_
  refine (tt_ga rfl rfl hi1).trans ?_
  refine (tt_f rfl).trans ?_
  refine (tt_is rfl rfl).trans ?_
  rfl
theorem B37_7 {l1 : Int32} {l2 : Int32} {l3 : Int32}  : zd S 37 7 [some (.ref 66), some (.int l1), some (.int l2), some (.int l3)] [] I J k = if l3 ≤ 0 then zd S 37 36 [some (.ref 66), some (.int l1), some (.int l2), some (.int l3)] [] I J k else zd S 37 11 [some (.ref 66), some (.int l1), some (.int l2), some (.int l3)] [] I J k := by
  refine (tt_fk rfl rfl).trans ?_
  refine (tt_il rfl).trans ?_
  refine (tt_f rfl).trans ?_
  exact tt_f1 (p := fun x => x ≤ 0) inferInstance rfl
theorem B37_11 {l1 : Int32} {l2 : Int32} {l3 : Int32} {v2 : Int32} {I3 : zI} {J4 : zJ} (hb : Nat.ble k.1 (mBu 37).1 = true ∧ Nat.ble k.2 (mBu 37).2 = true) (hi1 : zin (l1 + 1) 5 = true) (hq : zq S 22 [.long (J 68 (l1 + 1).toNatClampNeg), .int (l2 + l3)] I J (some (.int v2)) I3 J4) : zd S 37 11 [some (.ref 66), some (.int l1), some (.int l2), some (.int l3)] [] I J k = zd S 37 25 [some (.ref 66), some (.int l1), some (.int l2), some (.int l3)] [.int v2] I3 J4 k := by
  refine (tt_f rfl).trans ?_
  refine (tt_al rfl).trans ?_
  refine (tt_f rfl).trans ?_
  refine (tt_gr rfl rfl).trans ?_
  refine (tt_f rfl).trans ?_
  refine (tt_il rfl).trans ?_
  refine (tt_f rfl).trans ?_
  refine tt_c.trans ?_
  refine (tt_f rfl).trans ?_
  refine tt_bi.trans ?_
  refine (tt_f rfl).trans ?_
  refine (tt_gl rfl hi1).trans ?_
  refine (tt_f rfl).trans ?_
  refine (tt_il rfl).trans ?_
  refine (tt_f rfl).trans ?_
  refine (tt_il rfl).trans ?_
  refine (tt_f rfl).trans ?_
  refine tt_bi.trans ?_
  exact tt_cs (vs := [.long (J 68 (l1 + 1).toNatClampNeg), .int (l2 + l3)]) rfl hb.1 hb.2 rfl rfl rfl rfl hq
theorem B37_25 {l1 : Int32} {l2 : Int32} {l3 : Int32} {t0 : Int32}  : zd S 37 25 [some (.ref 66), some (.int l1), some (.int l2), some (.int l3)] [.int t0] I J k = if t0 = 0 then zd S 37 30 [some (.ref 66), some (.int l1), some (.int l2), some (.int l3)] [] I J k else zd S 37 28 [some (.ref 66), some (.int l1), some (.int l2), some (.int l3)] [] I J k := by
  refine (tt_f rfl).trans ?_
  exact tt_f1 (p := fun x => x = 0) inferInstance rfl
theorem B37_28 {l1 : Int32} {l2 : Int32} {l3 : Int32}  : zd S 37 28 [some (.ref 66), some (.int l1), some (.int l2), some (.int l3)] [] I J k = some ((some (.int l3)), mk I J, k) := by
  refine (tt_f rfl).trans ?_
  refine (tt_il rfl).trans ?_
  exact tt_r1 rfl rfl
theorem B37_30 {l1 : Int32} {l2 : Int32} {l3 : Int32}  : zd S 37 30 [some (.ref 66), some (.int l1), some (.int l2), some (.int l3)] [] I J k = zd S 37 7 [some (.ref 66), some (.int l1), some (.int l2), some (.int (l3 + (-1)))] [] I J k := by
  refine (tt_f rfl).trans ?_
  refine (tt_in rfl rfl).trans ?_
  refine (tt_f rfl).trans ?_
  refine tt_go.trans ?_
  rfl
theorem B37_36 {l1 : Int32} {l2 : Int32} {l3 : Int32}  : zd S 37 36 [some (.ref 66), some (.int l1), some (.int l2), some (.int l3)] [] I J k = some ((some (.int 0)), mk I J, k) := by
  refine (tt_f rfl).trans ?_
  refine tt_c.trans ?_
  exact tt_r1 rfl rfl
/-! 39: Painter.keep -/
theorem B39_0  (g3 : 0 ≤ (480 : Int32).toInt) (g4 : (0 : Int32).toNatClampNeg + (480 : Int32).toNatClampNeg ≤ 480) (g5 : (0 : Int32).toNatClampNeg + (480 : Int32).toNatClampNeg ≤ 480) (g6 : ∀ i, i < (480 : Int32).toNatClampNeg → zfit 2 (I 5 ((0 : Int32).toNatClampNeg + i)) = true) : zd S 39 0 [some (.ref 73), some (.ref 5), some (.ref 1)] [] I J k = zd S 39 13 [some (.ref 73), some (.ref 5), some (.ref 1)] [] (uc I 74 (va_cpy (I 5) (I 74) (0 : Int32).toNatClampNeg (0 : Int32).toNatClampNeg (480 : Int32).toNatClampNeg)) J k := by
  refine (tt_f rfl).trans ?_
  refine (tt_al rfl).trans ?_
  refine (tt_f rfl).trans ?_
  refine tt_c.trans ?_
  refine (tt_f rfl).trans ?_
  refine (tt_al rfl).trans ?_
  refine (tt_f rfl).trans ?_
  refine (tt_gr rfl rfl).trans ?_
  refine (tt_f rfl).trans ?_
  refine tt_c.trans ?_
  refine (tt_f rfl).trans ?_
  refine tt_c.trans ?_
  refine (tt_f rfl).trans ?_
  exact tt_cp rfl rfl (by decide) (by decide) (by decide) g3 g4 g5 g6 rfl
theorem B39_13  (g3 : 0 ≤ (26 : Int32).toInt) (g4 : (0 : Int32).toNatClampNeg + (26 : Int32).toNatClampNeg ≤ 26) (g5 : (0 : Int32).toNatClampNeg + (26 : Int32).toNatClampNeg ≤ 26) (g6 : ∀ i, i < (26 : Int32).toNatClampNeg → zfit 0 (I 1 ((0 : Int32).toNatClampNeg + i)) = true) : zd S 39 13 [some (.ref 73), some (.ref 5), some (.ref 1)] [] I J k = zd S 39 25 [some (.ref 73), some (.ref 5), some (.ref 1)] [] (uc I 75 (va_cpy (I 1) (I 75) (0 : Int32).toNatClampNeg (0 : Int32).toNatClampNeg (26 : Int32).toNatClampNeg)) J k := by
  refine (tt_f rfl).trans ?_
  refine (tt_al rfl).trans ?_
  refine (tt_f rfl).trans ?_
  refine tt_c.trans ?_
  refine (tt_f rfl).trans ?_
  refine (tt_al rfl).trans ?_
  refine (tt_f rfl).trans ?_
  refine (tt_gr rfl rfl).trans ?_
  refine (tt_f rfl).trans ?_
  refine tt_c.trans ?_
  refine (tt_f rfl).trans ?_
  refine tt_c.trans ?_
  refine (tt_f rfl).trans ?_
  exact tt_cp rfl rfl (by decide) (by decide) (by decide) g3 g4 g5 g6 rfl
theorem B39_25   : zd S 39 25 [some (.ref 73), some (.ref 5), some (.ref 1)] [] I J k = some (none, mk I J, k) := by
  exact tt_rv rfl
/-! 40: Painter.seen -/
theorem B40_0_80 {l2 : Int32} {l3 : Int32} {l4 : Int32} {s1 : Nat} (hs1 : s1 < 4) (hx : l2 = 80) : zd S 40 0 [some (.ref 73), some (.ref (7 + 12 * s1)), some (.int l2), some (.int l3), some (.int l4), none] [] I J k = zd S 40 32 [some (.ref 73), some (.ref (7 + 12 * s1)), some (.int l2), some (.int l3), some (.int l4), none] [] I J k := by
  refine (tt_f rfl).trans ?_
  refine (tt_il rfl).trans ?_
  refine (tt_f rfl).trans ?_
  subst hx
  exact tt_tsI (by decide) rfl
theorem B40_0_81 {l2 : Int32} {l3 : Int32} {l4 : Int32} {s1 : Nat} (hs1 : s1 < 4) (hx : l2 = 81) : zd S 40 0 [some (.ref 73), some (.ref (7 + 12 * s1)), some (.int l2), some (.int l3), some (.int l4), none] [] I J k = zd S 40 70 [some (.ref 73), some (.ref (7 + 12 * s1)), some (.int l2), some (.int l3), some (.int l4), none] [] I J k := by
  refine (tt_f rfl).trans ?_
  refine (tt_il rfl).trans ?_
  refine (tt_f rfl).trans ?_
  subst hx
  exact tt_tsI (by decide) rfl
theorem B40_0_82 {l2 : Int32} {l3 : Int32} {l4 : Int32} {s1 : Nat} (hs1 : s1 < 4) (hx : l2 = 82) : zd S 40 0 [some (.ref 73), some (.ref (7 + 12 * s1)), some (.int l2), some (.int l3), some (.int l4), none] [] I J k = zd S 40 73 [some (.ref 73), some (.ref (7 + 12 * s1)), some (.int l2), some (.int l3), some (.int l4), none] [] I J k := by
  refine (tt_f rfl).trans ?_
  refine (tt_il rfl).trans ?_
  refine (tt_f rfl).trans ?_
  subst hx
  exact tt_tsI (by decide) rfl
theorem B40_0_83 {l2 : Int32} {l3 : Int32} {l4 : Int32} {s1 : Nat} (hs1 : s1 < 4) (hx : l2 = 83) : zd S 40 0 [some (.ref 73), some (.ref (7 + 12 * s1)), some (.int l2), some (.int l3), some (.int l4), none] [] I J k = zd S 40 90 [some (.ref 73), some (.ref (7 + 12 * s1)), some (.int l2), some (.int l3), some (.int l4), none] [] I J k := by
  refine (tt_f rfl).trans ?_
  refine (tt_il rfl).trans ?_
  refine (tt_f rfl).trans ?_
  subst hx
  exact tt_tsI (by decide) rfl
theorem B40_0_d {l2 : Int32} {l3 : Int32} {l4 : Int32} {s1 : Nat} (hs1 : s1 < 4) (hx : (l2).toInt < 80 ∨ 83 < (l2).toInt) : zd S 40 0 [some (.ref 73), some (.ref (7 + 12 * s1)), some (.int l2), some (.int l3), some (.int l4), none] [] I J k = zd S 40 107 [some (.ref 73), some (.ref (7 + 12 * s1)), some (.int l2), some (.int l3), some (.int l4), none] [] I J k := by
  refine (tt_f rfl).trans ?_
  refine (tt_il rfl).trans ?_
  refine (tt_f rfl).trans ?_
  exact tt_tsO hx
theorem B40_32 {l2 : Int32} {l3 : Int32} {l4 : Int32} {s1 : Nat} {p38x : Nat} {v3 : Int32} {I4 : zI} {J5 : zJ} (hb : Nat.ble k.1 (mBu 40).1 = true ∧ Nat.ble k.2 (mBu 40).2 = true) (hs1 : s1 < 4) (hp38x : p38x < 2) (hi1 : zin 0 2 = true) (ha2 : ([15 + 12 * s1, 17 + 12 * s1] : List Nat)[(0 : Int32).toNatClampNeg]? = some (15 + 12 * s1 + 2 * p38x)) (hq : zq S 43 [.ref 73, .int (I (7 + 12 * s1) 9), .int (I (7 + 12 * s1) 10), .int 0, .int 0, .int (((l3 - (I (15 + 12 * s1 + 2 * p38x) 2)) * (I 73 0)) + l4)] I J (some (.int v3)) I4 J5) : zd S 40 32 [some (.ref 73), some (.ref (7 + 12 * s1)), some (.int l2), some (.int l3), some (.int l4), none] [] I J k = zd S 40 69 [some (.ref 73), some (.ref (7 + 12 * s1)), some (.int l2), some (.int l3), some (.int l4), some (.int (((l3 - (I (15 + 12 * s1 + 2 * p38x) 2)) * (I 73 0)) + l4))] [.int v3] I4 J5 k := by
  refine (tt_f rfl).trans ?_
  refine (tt_il rfl).trans ?_
  refine (tt_f rfl).trans ?_
  refine (tt_al rfl).trans ?_
  refine (tt_f rfl).trans ?_
  refine (tt_gr (shS hs1) rfl).trans ?_
  refine (tt_f rfl).trans ?_
  refine tt_c.trans ?_
  refine (tt_f rfl).trans ?_
  refine (tt_gq (shS7 hs1) hi1 ha2).trans ?_
  refine (tt_f rfl).trans ?_
  refine (tt_gi (shP hs1 hp38x) rfl).trans ?_
  refine (tt_f rfl).trans ?_
  refine tt_bi.trans ?_
  refine (tt_f rfl).trans ?_
  refine (tt_al rfl).trans ?_
  refine (tt_f rfl).trans ?_
  refine (tt_gi rfl rfl).trans ?_
  refine (tt_f rfl).trans ?_
  refine tt_bi.trans ?_
  refine (tt_f rfl).trans ?_
  refine (tt_il rfl).trans ?_
  refine (tt_f rfl).trans ?_
  refine tt_bi.trans ?_
  refine (tt_f rfl).trans ?_
  refine (tt_is rfl rfl).trans ?_
  refine (tt_f rfl).trans ?_
  refine (tt_al rfl).trans ?_
  refine (tt_f rfl).trans ?_
  refine (tt_al rfl).trans ?_
  refine (tt_f rfl).trans ?_
  refine (tt_gi (shS hs1) rfl).trans ?_
  refine (tt_f rfl).trans ?_
  refine (tt_al rfl).trans ?_
  refine (tt_f rfl).trans ?_
  refine (tt_gi (shS hs1) rfl).trans ?_
  refine (tt_f rfl).trans ?_
  refine tt_c.trans ?_
  refine (tt_f rfl).trans ?_
  refine tt_c.trans ?_
  refine (tt_f rfl).trans ?_
  refine (tt_il rfl).trans ?_
  exact tt_cv (As := [.int (I (7 + 12 * s1) 9), .int (I (7 + 12 * s1) 10), .int 0, .int 0, .int (((l3 - (I (15 + 12 * s1 + 2 * p38x) 2)) * (I 73 0)) + l4)]) rfl hb.1 hb.2 rfl rfl rfl rfl rfl hq
theorem B40_69 {l2 : Int32} {l3 : Int32} {l4 : Int32} {l5 : Int32} {t0 : Int32} {s1 : Nat} (hs1 : s1 < 4) : zd S 40 69 [some (.ref 73), some (.ref (7 + 12 * s1)), some (.int l2), some (.int l3), some (.int l4), some (.int l5)] [.int t0] I J k = some ((some (.int t0)), mk I J, k) := by
  exact tt_r1 rfl rfl
theorem B40_70 {l2 : Int32} {l3 : Int32} {l4 : Int32} {s1 : Nat} (hs1 : s1 < 4) : zd S 40 70 [some (.ref 73), some (.ref (7 + 12 * s1)), some (.int l2), some (.int l3), some (.int l4), none] [] I J k = some ((some (.int 35)), mk I J, k) := by
  refine (tt_f rfl).trans ?_
  refine tt_c.trans ?_
  exact tt_r1 rfl rfl
theorem B40_73 {l2 : Int32} {l3 : Int32} {l4 : Int32} {s1 : Nat} {p80x : Nat} {v3 : Int32} {I4 : zI} {J5 : zJ} (hb : Nat.ble k.1 (mBu 40).1 = true ∧ Nat.ble k.2 (mBu 40).2 = true) (hs1 : s1 < 4) (hp80x : p80x < 2) (hi1 : zin 1 2 = true) (ha2 : ([15 + 12 * s1, 17 + 12 * s1] : List Nat)[(1 : Int32).toNatClampNeg]? = some (15 + 12 * s1 + 2 * p80x)) (hq : zq S 41 [.int 62, .int (I (15 + 12 * s1 + 2 * p80x) 1), .int l4] I J (some (.int v3)) I4 J5) : zd S 40 73 [some (.ref 73), some (.ref (7 + 12 * s1)), some (.int l2), some (.int l3), some (.int l4), none] [] I J k = zd S 40 89 [some (.ref 73), some (.ref (7 + 12 * s1)), some (.int l2), some (.int l3), some (.int l4), none] [.int v3] I4 J5 k := by
  refine (tt_f rfl).trans ?_
  refine tt_c.trans ?_
  refine (tt_f rfl).trans ?_
  refine (tt_al rfl).trans ?_
  refine (tt_f rfl).trans ?_
  refine (tt_gr (shS hs1) rfl).trans ?_
  refine (tt_f rfl).trans ?_
  refine tt_c.trans ?_
  refine (tt_f rfl).trans ?_
  refine (tt_gq (shS7 hs1) hi1 ha2).trans ?_
  refine (tt_f rfl).trans ?_
  refine (tt_gi (shP hs1 hp80x) rfl).trans ?_
  refine (tt_f rfl).trans ?_
  refine (tt_il rfl).trans ?_
  exact tt_cs (vs := [.int 62, .int (I (15 + 12 * s1 + 2 * p80x) 1), .int l4]) rfl hb.1 hb.2 rfl rfl rfl rfl hq
theorem B40_89 {l2 : Int32} {l3 : Int32} {l4 : Int32} {t0 : Int32} {s1 : Nat} (hs1 : s1 < 4) : zd S 40 89 [some (.ref 73), some (.ref (7 + 12 * s1)), some (.int l2), some (.int l3), some (.int l4), none] [.int t0] I J k = some ((some (.int t0)), mk I J, k) := by
  exact tt_r1 rfl rfl
theorem B40_90 {l2 : Int32} {l3 : Int32} {l4 : Int32} {s1 : Nat} {p97x : Nat} {v3 : Int32} {I4 : zI} {J5 : zJ} (hb : Nat.ble k.1 (mBu 40).1 = true ∧ Nat.ble k.2 (mBu 40).2 = true) (hs1 : s1 < 4) (hp97x : p97x < 2) (hi1 : zin 0 2 = true) (ha2 : ([15 + 12 * s1, 17 + 12 * s1] : List Nat)[(0 : Int32).toNatClampNeg]? = some (15 + 12 * s1 + 2 * p97x)) (hq : zq S 41 [.int 60, .int (I (15 + 12 * s1 + 2 * p97x) 1), .int l4] I J (some (.int v3)) I4 J5) : zd S 40 90 [some (.ref 73), some (.ref (7 + 12 * s1)), some (.int l2), some (.int l3), some (.int l4), none] [] I J k = zd S 40 106 [some (.ref 73), some (.ref (7 + 12 * s1)), some (.int l2), some (.int l3), some (.int l4), none] [.int v3] I4 J5 k := by
  refine (tt_f rfl).trans ?_
  refine tt_c.trans ?_
  refine (tt_f rfl).trans ?_
  refine (tt_al rfl).trans ?_
  refine (tt_f rfl).trans ?_
  refine (tt_gr (shS hs1) rfl).trans ?_
  refine (tt_f rfl).trans ?_
  refine tt_c.trans ?_
  refine (tt_f rfl).trans ?_
  refine (tt_gq (shS7 hs1) hi1 ha2).trans ?_
  refine (tt_f rfl).trans ?_
  refine (tt_gi (shP hs1 hp97x) rfl).trans ?_
  refine (tt_f rfl).trans ?_
  refine (tt_il rfl).trans ?_
  exact tt_cs (vs := [.int 60, .int (I (15 + 12 * s1 + 2 * p97x) 1), .int l4]) rfl hb.1 hb.2 rfl rfl rfl rfl hq
theorem B40_106 {l2 : Int32} {l3 : Int32} {l4 : Int32} {t0 : Int32} {s1 : Nat} (hs1 : s1 < 4) : zd S 40 106 [some (.ref 73), some (.ref (7 + 12 * s1)), some (.int l2), some (.int l3), some (.int l4), none] [.int t0] I J k = some ((some (.int t0)), mk I J, k) := by
  exact tt_r1 rfl rfl
theorem B40_107 {l2 : Int32} {l3 : Int32} {l4 : Int32} {s1 : Nat} (hs1 : s1 < 4) : zd S 40 107 [some (.ref 73), some (.ref (7 + 12 * s1)), some (.int l2), some (.int l3), some (.int l4), none] [] I J k = if 40 ≤ l2 then zd S 40 124 [some (.ref 73), some (.ref (7 + 12 * s1)), some (.int l2), some (.int l3), some (.int l4), none] [] I J k else zd S 40 113 [some (.ref 73), some (.ref (7 + 12 * s1)), some (.int l2), some (.int l3), some (.int l4), none] [] I J k := by
  refine (tt_f rfl).trans ?_
  refine (tt_il rfl).trans ?_
  refine (tt_f rfl).trans ?_
  refine tt_c.trans ?_
  refine (tt_f rfl).trans ?_
  exact tt_f2 (p := fun x y => y ≤ x) inferInstance rfl
theorem B40_113 {l2 : Int32} {l3 : Int32} {l4 : Int32} {s1 : Nat} {v1 : Int32} {I2 : zI} {J3 : zJ} (hb : Nat.ble k.1 (mBu 40).1 = true ∧ Nat.ble k.2 (mBu 40).2 = true) (hs1 : s1 < 4) (hq : zq S 42 [.ref 73, .ref (7 + 12 * s1), .int l2, .int l4] I J (some (.int v1)) I2 J3) : zd S 40 113 [some (.ref 73), some (.ref (7 + 12 * s1)), some (.int l2), some (.int l3), some (.int l4), none] [] I J k = zd S 40 121 [some (.ref 73), some (.ref (7 + 12 * s1)), some (.int l2), some (.int l3), some (.int l4), none] [.int v1] I2 J3 k := by
  refine (tt_f rfl).trans ?_
  refine (tt_al rfl).trans ?_
  refine (tt_f rfl).trans ?_
  refine (tt_al rfl).trans ?_
  refine (tt_f rfl).trans ?_
  refine (tt_il rfl).trans ?_
  refine (tt_f rfl).trans ?_
  refine (tt_il rfl).trans ?_
  exact tt_cv (As := [.ref (7 + 12 * s1), .int l2, .int l4]) rfl hb.1 hb.2 rfl rfl rfl rfl rfl hq
theorem B40_121 {l2 : Int32} {l3 : Int32} {l4 : Int32} {t0 : Int32} {s1 : Nat} (hs1 : s1 < 4) : zd S 40 121 [some (.ref 73), some (.ref (7 + 12 * s1)), some (.int l2), some (.int l3), some (.int l4), none] [.int t0] I J k = some ((some (.int t0)), mk I J, k) := by
  refine (tt_f rfl).trans ?_
  refine tt_go.trans ?_
  exact tt_r1 rfl rfl
theorem B40_124 {l2 : Int32} {l3 : Int32} {l4 : Int32} {s1 : Nat} (hs1 : s1 < 4) : zd S 40 124 [some (.ref 73), some (.ref (7 + 12 * s1)), some (.int l2), some (.int l3), some (.int l4), none] [] I J k = some ((some (.int 0)), mk I J, k) := by
  refine (tt_f rfl).trans ?_
  refine tt_c.trans ?_
  exact tt_r1 rfl rfl
/-! 41: Painter.signUnit -/
theorem B41_0 {l0 : Int32} {l1 : Int32} {l2 : Int32}  : zd S 41 0 [some (.int l0), some (.int l1), some (.int l2)] [] I J k = if ¬ l2 = 0 then zd S 41 6 [some (.int l0), some (.int l1), some (.int l2)] [] I J k else zd S 41 4 [some (.int l0), some (.int l1), some (.int l2)] [] I J k := by
  refine (tt_f rfl).trans ?_
  refine (tt_il rfl).trans ?_
  refine (tt_f rfl).trans ?_
  exact tt_f1 (p := fun x => ¬ x = 0) inferInstance rfl
theorem B41_4 {l0 : Int32} {l1 : Int32} {l2 : Int32}  : zd S 41 4 [some (.int l0), some (.int l1), some (.int l2)] [] I J k = some ((some (.int l0)), mk I J, k) := by
  refine (tt_f rfl).trans ?_
  refine (tt_il rfl).trans ?_
  exact tt_r1 rfl rfl
theorem B41_6 {l0 : Int32} {l1 : Int32} {l2 : Int32}  : zd S 41 6 [some (.int l0), some (.int l1), some (.int l2)] [] I J k = if ¬ l2 = 1 then zd S 41 18 [some (.int l0), some (.int l1), some (.int l2)] [] I J k else zd S 41 11 [some (.int l0), some (.int l1), some (.int l2)] [] I J k := by
  refine (tt_f rfl).trans ?_
  refine (tt_il rfl).trans ?_
  refine (tt_f rfl).trans ?_
  refine tt_c.trans ?_
  refine (tt_f rfl).trans ?_
  exact tt_f2 (p := fun x y => ¬ x = y) inferInstance rfl
theorem B41_11 {l0 : Int32} {l1 : Int32} {l2 : Int32}  : zd S 41 11 [some (.int l0), some (.int l1), some (.int l2)] [] I J k = some ((some (.int (49 + l1))), mk I J, k) := by
  refine (tt_f rfl).trans ?_
  refine tt_c.trans ?_
  refine (tt_f rfl).trans ?_
  refine (tt_il rfl).trans ?_
  refine (tt_f rfl).trans ?_
  refine tt_bi.trans ?_
  refine (tt_f rfl).trans ?_
  refine tt_go.trans ?_
  exact tt_r1 rfl rfl
theorem B41_18 {l0 : Int32} {l1 : Int32} {l2 : Int32}  : zd S 41 18 [some (.int l0), some (.int l1), some (.int l2)] [] I J k = some ((some (.int 0)), mk I J, k) := by
  refine (tt_f rfl).trans ?_
  refine tt_c.trans ?_
  exact tt_r1 rfl rfl
/-! 42: Painter.lineUnit -/
theorem B42_0 {l2 : Int32} {l3 : Int32} {s1 : Nat} (hs1 : s1 < 4) (hi1 : zin l2 40 = true) (hi2 : zin l2 40 = true) (hi3 : zin l2 40 = true) : zd S 42 0 [some (.ref 73), some (.ref (7 + 12 * s1)), some (.int l2), some (.int l3), none, none, none, none, none, none] [] I J k = if ¬ (I (13 + 12 * s1) l2.toNatClampNeg) = 2 then zd S 42 30 [some (.ref 73), some (.ref (7 + 12 * s1)), some (.int l2), some (.int l3), some (.int (I (11 + 12 * s1) l2.toNatClampNeg)), some (.int (I (12 + 12 * s1) l2.toNatClampNeg)), none, none, none, none] [] I J k else zd S 42 26 [some (.ref 73), some (.ref (7 + 12 * s1)), some (.int l2), some (.int l3), some (.int (I (11 + 12 * s1) l2.toNatClampNeg)), some (.int (I (12 + 12 * s1) l2.toNatClampNeg)), none, none, none, none] [] I J k := by
  refine (tt_f rfl).trans ?_
  refine (tt_al rfl).trans ?_
  refine (tt_f rfl).trans ?_
  refine (tt_gr (shS hs1) rfl).trans ?_
  refine (tt_f rfl).trans ?_
  refine (tt_il rfl).trans ?_
  refine (tt_f rfl).trans ?_
  refine (tt_ga (shS4 hs1) rfl hi1).trans ?_
  refine (tt_f rfl).trans ?_
  refine (tt_is rfl rfl).trans ?_
  refine (tt_f rfl).trans ?_
  refine (tt_al rfl).trans ?_
  refine (tt_f rfl).trans ?_
  refine (tt_gr (shS hs1) rfl).trans ?_
  refine (tt_f rfl).trans ?_
  refine (tt_il rfl).trans ?_
  refine (tt_f rfl).trans ?_
  refine (tt_ga (shS5 hs1) rfl hi2).trans ?_
  refine (tt_f rfl).trans ?_
  refine (tt_is rfl rfl).trans ?_
  refine (tt_f rfl).trans ?_
  refine (tt_al rfl).trans ?_
  refine (tt_f rfl).trans ?_
  refine (tt_gr (shS hs1) rfl).trans ?_
  refine (tt_f rfl).trans ?_
  refine (tt_il rfl).trans ?_
  refine (tt_f rfl).trans ?_
  refine (tt_ga (shS6 hs1) rfl hi3).trans ?_
  refine (tt_f rfl).trans ?_
  refine tt_c.trans ?_
  refine (tt_f rfl).trans ?_
  exact tt_f2 (p := fun x y => ¬ x = y) inferInstance rfl
theorem B42_26 {l2 : Int32} {l3 : Int32} {l4 : Int32} {l5 : Int32} {s1 : Nat} {v1 : Int32} {I2 : zI} {J3 : zJ} (hb : Nat.ble k.1 (mBu 42).1 = true ∧ Nat.ble k.2 (mBu 42).2 = true) (hs1 : s1 < 4) (hq : zq S 44 [.ref 73, .int l4, .int l5] I J (some (.int v1)) I2 J3) : zd S 42 26 [some (.ref 73), some (.ref (7 + 12 * s1)), some (.int l2), some (.int l3), some (.int l4), some (.int l5), none, none, none, none] [] I J k = zd S 42 41 [some (.ref 73), some (.ref (7 + 12 * s1)), some (.int l2), some (.int l3), some (.int l4), some (.int l5), some (.int 2), none, none, none] [.int v1] I2 J3 k := by
  refine (tt_f rfl).trans ?_
  refine tt_c.trans ?_
  refine (tt_f rfl).trans ?_
  refine tt_go.trans ?_
  refine (tt_fk rfl rfl).trans ?_
  refine (tt_is rfl rfl).trans ?_
  refine (tt_f rfl).trans ?_
  refine (tt_al rfl).trans ?_
  refine (tt_f rfl).trans ?_
  refine (tt_il rfl).trans ?_
  refine (tt_f rfl).trans ?_
  refine (tt_il rfl).trans ?_
  exact tt_cv (As := [.int l4, .int l5]) rfl hb.1 hb.2 rfl rfl rfl rfl rfl hq
theorem B42_30 {l2 : Int32} {l3 : Int32} {l4 : Int32} {l5 : Int32} {s1 : Nat} {v1 : Int32} {I2 : zI} {J3 : zJ} (hb : Nat.ble k.1 (mBu 42).1 = true ∧ Nat.ble k.2 (mBu 42).2 = true) (hs1 : s1 < 4) (hq : zq S 44 [.ref 73, .int l4, .int l5] I J (some (.int v1)) I2 J3) : zd S 42 30 [some (.ref 73), some (.ref (7 + 12 * s1)), some (.int l2), some (.int l3), some (.int l4), some (.int l5), none, none, none, none] [] I J k = zd S 42 41 [some (.ref 73), some (.ref (7 + 12 * s1)), some (.int l2), some (.int l3), some (.int l4), some (.int l5), some (.int 0), none, none, none] [.int v1] I2 J3 k := by
  refine (tt_f rfl).trans ?_
  refine tt_c.trans ?_
  refine (tt_fk rfl rfl).trans ?_
  refine (tt_is rfl rfl).trans ?_
  refine (tt_f rfl).trans ?_
  refine (tt_al rfl).trans ?_
  refine (tt_f rfl).trans ?_
  refine (tt_il rfl).trans ?_
  refine (tt_f rfl).trans ?_
  refine (tt_il rfl).trans ?_
  exact tt_cv (As := [.int l4, .int l5]) rfl hb.1 hb.2 rfl rfl rfl rfl rfl hq
theorem B42_41 {l2 : Int32} {l3 : Int32} {l4 : Int32} {l5 : Int32} {l6 : Int32} {t0 : Int32} {s1 : Nat} {v1 : Int32} {I2 : zI} {J3 : zJ} (hb : Nat.ble k.1 (mBu 42).1 = true ∧ Nat.ble k.2 (mBu 42).2 = true) (hs1 : s1 < 4) (hq : zq S 45 [.ref 73, .int l4, .int l5] I J (some (.int v1)) I2 J3) : zd S 42 41 [some (.ref 73), some (.ref (7 + 12 * s1)), some (.int l2), some (.int l3), some (.int l4), some (.int l5), some (.int l6), none, none, none] [.int t0] I J k = zd S 42 51 [some (.ref 73), some (.ref (7 + 12 * s1)), some (.int l2), some (.int l3), some (.int l4), some (.int l5), some (.int l6), some (.int t0), none, none] [.int v1] I2 J3 k := by
  refine (tt_f rfl).trans ?_
  refine (tt_is rfl rfl).trans ?_
  refine (tt_f rfl).trans ?_
  refine (tt_al rfl).trans ?_
  refine (tt_f rfl).trans ?_
  refine (tt_il rfl).trans ?_
  refine (tt_f rfl).trans ?_
  refine (tt_il rfl).trans ?_
  exact tt_cv (As := [.int l4, .int l5]) rfl hb.1 hb.2 rfl rfl rfl rfl rfl hq
theorem B42_51 {l2 : Int32} {l3 : Int32} {l4 : Int32} {l5 : Int32} {l6 : Int32} {l7 : Int32} {t0 : Int32} {s1 : Nat} (hs1 : s1 < 4) (hi1 : zin l2 40 = true) : zd S 42 51 [some (.ref 73), some (.ref (7 + 12 * s1)), some (.int l2), some (.int l3), some (.int l4), some (.int l5), some (.int l6), some (.int l7), none, none] [.int t0] I J k = if (I (13 + 12 * s1) l2.toNatClampNeg) = 3 then zd S 42 90 [some (.ref 73), some (.ref (7 + 12 * s1)), some (.int l2), some (.int l3), some (.int l4), some (.int l5), some (.int l6), some (.int l7), some (.int t0), some (.int 0)] [] I J k else zd S 42 66 [some (.ref 73), some (.ref (7 + 12 * s1)), some (.int l2), some (.int l3), some (.int l4), some (.int l5), some (.int l6), some (.int l7), some (.int t0), some (.int 0)] [] I J k := by
  refine (tt_f rfl).trans ?_
  refine (tt_is rfl rfl).trans ?_
  refine (tt_f rfl).trans ?_
  refine tt_c.trans ?_
  refine (tt_f rfl).trans ?_
  refine (tt_is rfl rfl).trans ?_
  refine (tt_f rfl).trans ?_
  refine (tt_al rfl).trans ?_
  refine (tt_f rfl).trans ?_
  refine (tt_gr (shS hs1) rfl).trans ?_
  refine (tt_f rfl).trans ?_
  refine (tt_il rfl).trans ?_
  refine (tt_f rfl).trans ?_
  refine (tt_ga (shS6 hs1) rfl hi1).trans ?_
  refine (tt_f rfl).trans ?_
  refine tt_c.trans ?_
  refine (tt_f rfl).trans ?_
  exact tt_f2 (p := fun x y => x = y) inferInstance rfl
theorem B42_66 {l2 : Int32} {l3 : Int32} {l4 : Int32} {l5 : Int32} {l6 : Int32} {l7 : Int32} {l8 : Int32} {l9 : Int32} {s1 : Nat} (hs1 : s1 < 4) : zd S 42 66 [some (.ref 73), some (.ref (7 + 12 * s1)), some (.int l2), some (.int l3), some (.int l4), some (.int l5), some (.int l6), some (.int l7), some (.int l8), some (.int l9)] [] I J k = if l8 ≤ 0 then zd S 42 90 [some (.ref 73), some (.ref (7 + 12 * s1)), some (.int l2), some (.int l3), some (.int l4), some (.int l5), some (.int l6), some (.int l7), some (.int l8), some (.int l9)] [] I J k else zd S 42 71 [some (.ref 73), some (.ref (7 + 12 * s1)), some (.int l2), some (.int l3), some (.int l4), some (.int l5), some (.int l6), some (.int l7), some (.int l8), some (.int l9)] [] I J k := by
  refine (tt_f rfl).trans ?_
  refine (tt_il rfl).trans ?_
  refine (tt_f rfl).trans ?_
  exact tt_f1 (p := fun x => x ≤ 0) inferInstance rfl
theorem B42_71 {l2 : Int32} {l3 : Int32} {l4 : Int32} {l5 : Int32} {l6 : Int32} {l7 : Int32} {l8 : Int32} {l9 : Int32} {s1 : Nat} (hs1 : s1 < 4) : zd S 42 71 [some (.ref 73), some (.ref (7 + 12 * s1)), some (.int l2), some (.int l3), some (.int l4), some (.int l5), some (.int l6), some (.int l7), some (.int l8), some (.int l9)] [] I J k = if l3 < (l7 + (((I 73 0) - l7) - l6)) then zd S 42 112 [some (.ref 73), none, none, some (.int l3), some (.int l4), some (.int l5), some (.int l6), some (.int (l7 + (((I 73 0) - l7) - l6))), some (.int l8), some (.int (((I 73 0) - l7) - l6))] [] I J k else zd S 42 96 [some (.ref 73), none, none, some (.int l3), some (.int l4), some (.int l5), some (.int l6), some (.int (l7 + (((I 73 0) - l7) - l6))), some (.int l8), some (.int (((I 73 0) - l7) - l6))] [] I J k := by
  refine (tt_f rfl).trans ?_
  refine (tt_al rfl).trans ?_
  refine (tt_f rfl).trans ?_
  refine (tt_gi rfl rfl).trans ?_
  refine (tt_f rfl).trans ?_
  refine (tt_il rfl).trans ?_
  refine (tt_f rfl).trans ?_
  refine tt_bi.trans ?_
  refine (tt_f rfl).trans ?_
  refine (tt_il rfl).trans ?_
  refine (tt_f rfl).trans ?_
  refine tt_bi.trans ?_
  refine (tt_f rfl).trans ?_
  refine (tt_is rfl rfl).trans ?_
  refine (tt_f rfl).trans ?_
  refine (tt_il rfl).trans ?_
  refine (tt_f rfl).trans ?_
  refine (tt_il rfl).trans ?_
  refine (tt_f rfl).trans ?_
  refine tt_bi.trans ?_
  refine (tt_f rfl).trans ?_
  refine (tt_is rfl rfl).trans ?_
  refine (tt_fk rfl rfl).trans ?_
  refine (tt_il rfl).trans ?_
  refine (tt_f rfl).trans ?_
  refine (tt_il rfl).trans ?_
  refine (tt_f rfl).trans ?_
  exact tt_f2 (p := fun x y => x < y) inferInstance rfl
theorem B42_90 {l2 : Int32} {l3 : Int32} {l4 : Int32} {l5 : Int32} {l6 : Int32} {l7 : Int32} {l8 : Int32} {l9 : Int32} {s1 : Nat} (hs1 : s1 < 4) : zd S 42 90 [some (.ref 73), some (.ref (7 + 12 * s1)), some (.int l2), some (.int l3), some (.int l4), some (.int l5), some (.int l6), some (.int l7), some (.int l8), some (.int l9)] [] I J k = if l3 < l7 then zd S 42 112 [some (.ref 73), none, none, some (.int l3), some (.int l4), some (.int l5), some (.int l6), some (.int l7), some (.int l8), some (.int l9)] [] I J k else zd S 42 96 [some (.ref 73), none, none, some (.int l3), some (.int l4), some (.int l5), some (.int l6), some (.int l7), some (.int l8), some (.int l9)] [] I J k := by
  refine (tt_fk rfl rfl).trans ?_
  refine (tt_il rfl).trans ?_
  refine (tt_f rfl).trans ?_
  refine (tt_il rfl).trans ?_
  refine (tt_f rfl).trans ?_
  exact tt_f2 (p := fun x y => x < y) inferInstance rfl
theorem B42_96 {l3 : Int32} {l4 : Int32} {l5 : Int32} {l6 : Int32} {l7 : Int32} {l8 : Int32} {l9 : Int32}  : zd S 42 96 [some (.ref 73), none, none, some (.int l3), some (.int l4), some (.int l5), some (.int l6), some (.int l7), some (.int l8), some (.int l9)] [] I J k = if (l7 + l6) ≤ l3 then zd S 42 110 [some (.ref 73), none, none, some (.int l3), some (.int l4), some (.int l5), some (.int l6), some (.int l7), some (.int l8), some (.int l9)] [] I J k else zd S 42 105 [some (.ref 73), none, none, some (.int l3), some (.int l4), some (.int l5), some (.int l6), some (.int l7), some (.int l8), some (.int l9)] [] I J k := by
  refine (tt_f rfl).trans ?_
  refine (tt_il rfl).trans ?_
  refine (tt_f rfl).trans ?_
  refine (tt_il rfl).trans ?_
  refine (tt_f rfl).trans ?_
  refine (tt_il rfl).trans ?_
  refine (tt_f rfl).trans ?_
  refine tt_bi.trans ?_
  refine (tt_f rfl).trans ?_
  exact tt_f2 (p := fun x y => y ≤ x) inferInstance rfl
theorem B42_105 {l3 : Int32} {l4 : Int32} {l5 : Int32} {l6 : Int32} {l7 : Int32} {l8 : Int32} {l9 : Int32}  : zd S 42 105 [some (.ref 73), none, none, some (.int l3), some (.int l4), some (.int l5), some (.int l6), some (.int l7), some (.int l8), some (.int l9)] [] I J k = some ((some (.int 45)), mk I J, k) := by
  refine (tt_f rfl).trans ?_
  refine tt_c.trans ?_
  refine (tt_f rfl).trans ?_
  refine tt_go.trans ?_
  exact tt_r1 rfl rfl
theorem B42_110 {l3 : Int32} {l4 : Int32} {l5 : Int32} {l6 : Int32} {l7 : Int32} {l8 : Int32} {l9 : Int32}  : zd S 42 110 [some (.ref 73), none, none, some (.int l3), some (.int l4), some (.int l5), some (.int l6), some (.int l7), some (.int l8), some (.int l9)] [] I J k = some ((some (.int 0)), mk I J, k) := by
  refine (tt_f rfl).trans ?_
  refine tt_c.trans ?_
  exact tt_r1 rfl rfl
theorem B42_112 {l3 : Int32} {l4 : Int32} {l5 : Int32} {l6 : Int32} {l7 : Int32} {l8 : Int32} {l9 : Int32} {v1 : Int32} {I2 : zI} {J3 : zJ} (hb : Nat.ble k.1 (mBu 42).1 = true ∧ Nat.ble k.2 (mBu 42).2 = true) (hq : zq S 43 [.ref 73, .int l4, .int l5, .int l9, .int l8, .int l3] I J (some (.int v1)) I2 J3) : zd S 42 112 [some (.ref 73), none, none, some (.int l3), some (.int l4), some (.int l5), some (.int l6), some (.int l7), some (.int l8), some (.int l9)] [] I J k = zd S 42 125 [some (.ref 73), none, none, some (.int l3), some (.int l4), some (.int l5), some (.int l6), some (.int l7), some (.int l8), some (.int l9)] [.int v1] I2 J3 k := by
  refine (tt_f rfl).trans ?_
  refine (tt_al rfl).trans ?_
  refine (tt_f rfl).trans ?_
  refine (tt_il rfl).trans ?_
  refine (tt_f rfl).trans ?_
  refine (tt_il rfl).trans ?_
  refine (tt_f rfl).trans ?_
  refine (tt_il rfl).trans ?_
  refine (tt_f rfl).trans ?_
  refine (tt_il rfl).trans ?_
  refine (tt_f rfl).trans ?_
  refine (tt_il rfl).trans ?_
  exact tt_cv (As := [.int l4, .int l5, .int l9, .int l8, .int l3]) rfl hb.1 hb.2 rfl rfl rfl rfl rfl hq
theorem B42_125 {l3 : Int32} {l4 : Int32} {l5 : Int32} {l6 : Int32} {l7 : Int32} {l8 : Int32} {l9 : Int32} {t0 : Int32}  : zd S 42 125 [some (.ref 73), none, none, some (.int l3), some (.int l4), some (.int l5), some (.int l6), some (.int l7), some (.int l8), some (.int l9)] [.int t0] I J k = some ((some (.int t0)), mk I J, k) := by
  exact tt_r1 rfl rfl
/-! 43: Painter.rowUnit -/
theorem B43_0 {l1 : Int32} {l2 : Int32} {l3 : Int32} {l4 : Int32} {l5 : Int32}  : zd S 43 0 [some (.ref 73), some (.int l1), some (.int l2), some (.int l3), some (.int l4), some (.int l5), none, none, none, none, none] [] I J k = if l4 ≤ 0 then zd S 43 12 [some (.ref 73), some (.int l1), some (.int l2), some (.int l3), some (.int l4), some (.int l5), none, none, none, none, none] [] I J k else zd S 43 5 [some (.ref 73), some (.int l1), some (.int l2), some (.int l3), some (.int l4), some (.int l5), none, none, none, none, none] [] I J k := by
  refine (tt_f rfl).trans ?_
  refine (tt_il rfl).trans ?_
  refine (tt_f rfl).trans ?_
  exact tt_f1 (p := fun x => x ≤ 0) inferInstance rfl
theorem B43_5 {l1 : Int32} {l2 : Int32} {l3 : Int32} {l4 : Int32} {l5 : Int32} (hy1 : ¬ l4 = 0) : zd S 43 5 [some (.ref 73), some (.int l1), some (.int l2), some (.int l3), some (.int l4), some (.int l5), none, none, none, none, none] [] I J k = zd S 43 30 [some (.ref 73), some (.int l1), some (.int l2), some (.int l3), some (.int l4), some (.int l5), some (.int (l3 / l4)), some (.int (l3 - ((l3 / l4) * l4))), some (.int 0), some (.int l1), none] [] I J k := by
  refine (tt_f rfl).trans ?_
  refine (tt_il rfl).trans ?_
  refine (tt_f rfl).trans ?_
  refine (tt_il rfl).trans ?_
  refine (tt_f rfl).trans ?_
  refine (tt_bz hy1).trans ?_
  refine (tt_f rfl).trans ?_
  refine tt_go.trans ?_
  refine (tt_fk rfl rfl).trans ?_
  refine (tt_is rfl rfl).trans ?_
  refine (tt_f rfl).trans ?_
  refine (tt_il rfl).trans ?_
  refine (tt_f rfl).trans ?_
  refine (tt_il rfl).trans ?_
  refine (tt_f rfl).trans ?_
  refine (tt_il rfl).trans ?_
  refine (tt_f rfl).trans ?_
  refine tt_bi.trans ?_
  refine (tt_f rfl).trans ?_
  refine tt_bi.trans ?_
  refine (tt_f rfl).trans ?_
  refine (tt_is rfl rfl).trans ?_
  refine (tt_f rfl).trans ?_
  refine tt_c.trans ?_
  refine (tt_f rfl).trans ?_
  refine (tt_is rfl rfl).trans ?_
  refine (tt_f rfl).trans ?_
  refine (tt_il rfl).trans ?_
  refine (tt_f rfl).trans ?_
  refine (tt_is rfl rfl).trans ?_
  rfl
theorem B43_12 {l1 : Int32} {l2 : Int32} {l3 : Int32} {l4 : Int32} {l5 : Int32}  : zd S 43 12 [some (.ref 73), some (.int l1), some (.int l2), some (.int l3), some (.int l4), some (.int l5), none, none, none, none, none] [] I J k = zd S 43 30 [some (.ref 73), some (.int l1), some (.int l2), some (.int l3), some (.int l4), some (.int l5), some (.int 0), some (.int (l3 - (0 * l4))), some (.int 0), some (.int l1), none] [] I J k := by
  refine (tt_f rfl).trans ?_
  refine tt_c.trans ?_
  refine (tt_fk rfl rfl).trans ?_
  refine (tt_is rfl rfl).trans ?_
  refine (tt_f rfl).trans ?_
  refine (tt_il rfl).trans ?_
  refine (tt_f rfl).trans ?_
  refine (tt_il rfl).trans ?_
  refine (tt_f rfl).trans ?_
  refine (tt_il rfl).trans ?_
  refine (tt_f rfl).trans ?_
  refine tt_bi.trans ?_
  refine (tt_f rfl).trans ?_
  refine tt_bi.trans ?_
  refine (tt_f rfl).trans ?_
  refine (tt_is rfl rfl).trans ?_
  refine (tt_f rfl).trans ?_
  refine tt_c.trans ?_
  refine (tt_f rfl).trans ?_
  refine (tt_is rfl rfl).trans ?_
  refine (tt_f rfl).trans ?_
  refine (tt_il rfl).trans ?_
  refine (tt_f rfl).trans ?_
  refine (tt_is rfl rfl).trans ?_
  rfl
theorem B43_30 {o1 : Option Value} {l2 : Int32} {o3 : Option Value} {o4 : Option Value} {l5 : Int32} {l6 : Int32} {l7 : Int32} {l8 : Int32} {l9 : Int32} {o10 : Option Value}  : zd S 43 30 [some (.ref 73), o1, some (.int l2), o3, o4, some (.int l5), some (.int l6), some (.int l7), some (.int l8), some (.int l9), o10] [] I J k = if l2 ≤ l9 then zd S 43 127 [some (.ref 73), none, some (.int l2), none, none, some (.int l5), some (.int l6), some (.int l7), some (.int l8), some (.int l9), none] [] I J k else zd S 43 36 [some (.ref 73), none, some (.int l2), none, none, some (.int l5), some (.int l6), some (.int l7), some (.int l8), some (.int l9), none] [] I J k := by
  refine (tt_fk rfl rfl).trans ?_
  refine (tt_il rfl).trans ?_
  refine (tt_f rfl).trans ?_
  refine (tt_il rfl).trans ?_
  refine (tt_f rfl).trans ?_
  exact tt_f2 (p := fun x y => y ≤ x) inferInstance rfl
theorem B43_36 {l2 : Int32} {l5 : Int32} {l6 : Int32} {l7 : Int32} {l8 : Int32} {l9 : Int32} (hi1 : zin l9 480 = true) : zd S 43 36 [some (.ref 73), none, some (.int l2), none, none, some (.int l5), some (.int l6), some (.int l7), some (.int l8), some (.int l9), none] [] I J k = if ¬ (I 74 l9.toNatClampNeg) = 32 then zd S 43 52 [some (.ref 73), none, some (.int l2), none, none, some (.int l5), some (.int l6), some (.int l7), some (.int l8), some (.int l9), none] [] I J k else zd S 43 48 [some (.ref 73), none, some (.int l2), none, none, some (.int l5), some (.int l6), some (.int l7), some (.int l8), some (.int l9), none] [] I J k := by
  refine (tt_f rfl).trans ?_
  refine (tt_al rfl).trans ?_
  refine (tt_f rfl).trans ?_
  refine (tt_gr rfl rfl).trans ?_
  refine (tt_f rfl).trans ?_
  refine (tt_il rfl).trans ?_
  refine (tt_f rfl).trans ?_
  refine (tt_ga rfl rfl hi1).trans ?_
  refine (tt_f rfl).trans ?_
  refine tt_c.trans ?_
  refine (tt_f rfl).trans ?_
  exact tt_f2 (p := fun x y => ¬ x = y) inferInstance rfl
theorem B43_48 {l2 : Int32} {l5 : Int32} {l6 : Int32} {l7 : Int32} {l8 : Int32} {l9 : Int32} {v2 : Int32} {I3 : zI} {J4 : zJ} (hb : Nat.ble k.1 (mBu 43).1 = true ∧ Nat.ble k.2 (mBu 43).2 = true) (hi1 : zin l9 480 = true) (hq : zq S 46 [.ref 73, .int (I 74 l9.toNatClampNeg)] I J (some (.int v2)) I3 J4) : zd S 43 48 [some (.ref 73), none, some (.int l2), none, none, some (.int l5), some (.int l6), some (.int l7), some (.int l8), some (.int l9), none] [] I J k = zd S 43 68 [some (.ref 73), none, some (.int l2), none, none, some (.int l5), some (.int l6), some (.int l7), some (.int l8), some (.int l9), some (.int 1)] [.int v2, .int l8] I3 J4 k := by
  refine (tt_f rfl).trans ?_
  refine tt_c.trans ?_
  refine (tt_f rfl).trans ?_
  refine tt_go.trans ?_
  refine (tt_fk rfl rfl).trans ?_
  refine (tt_is rfl rfl).trans ?_
  refine (tt_f rfl).trans ?_
  refine (tt_il rfl).trans ?_
  refine (tt_f rfl).trans ?_
  refine (tt_al rfl).trans ?_
  refine (tt_f rfl).trans ?_
  refine (tt_al rfl).trans ?_
  refine (tt_f rfl).trans ?_
  refine (tt_gr rfl rfl).trans ?_
  refine (tt_f rfl).trans ?_
  refine (tt_il rfl).trans ?_
  refine (tt_f rfl).trans ?_
  refine (tt_ga rfl rfl hi1).trans ?_
  exact tt_cv (As := [.int (I 74 l9.toNatClampNeg)]) rfl hb.1 hb.2 rfl rfl rfl rfl rfl hq
theorem B43_52 {l2 : Int32} {l5 : Int32} {l6 : Int32} {l7 : Int32} {l8 : Int32} {l9 : Int32} {v2 : Int32} {I3 : zI} {J4 : zJ} (hb : Nat.ble k.1 (mBu 43).1 = true ∧ Nat.ble k.2 (mBu 43).2 = true) (hi1 : zin l9 480 = true) (hq : zq S 46 [.ref 73, .int (I 74 l9.toNatClampNeg)] I J (some (.int v2)) I3 J4) : zd S 43 52 [some (.ref 73), none, some (.int l2), none, none, some (.int l5), some (.int l6), some (.int l7), some (.int l8), some (.int l9), none] [] I J k = zd S 43 68 [some (.ref 73), none, some (.int l2), none, none, some (.int l5), some (.int l6), some (.int l7), some (.int l8), some (.int l9), some (.int 0)] [.int v2, .int l8] I3 J4 k := by
  refine (tt_f rfl).trans ?_
  refine tt_c.trans ?_
  refine (tt_fk rfl rfl).trans ?_
  refine (tt_is rfl rfl).trans ?_
  refine (tt_f rfl).trans ?_
  refine (tt_il rfl).trans ?_
  refine (tt_f rfl).trans ?_
  refine (tt_al rfl).trans ?_
  refine (tt_f rfl).trans ?_
  refine (tt_al rfl).trans ?_
  refine (tt_f rfl).trans ?_
  refine (tt_gr rfl rfl).trans ?_
  refine (tt_f rfl).trans ?_
  refine (tt_il rfl).trans ?_
  refine (tt_f rfl).trans ?_
  refine (tt_ga rfl rfl hi1).trans ?_
  exact tt_cv (As := [.int (I 74 l9.toNatClampNeg)]) rfl hb.1 hb.2 rfl rfl rfl rfl rfl hq
theorem B43_68 {l2 : Int32} {l5 : Int32} {l6 : Int32} {l7 : Int32} {l8 : Int32} {l9 : Int32} {l10 : Int32} {t0 : Int32} {t1 : Int32}  : zd S 43 68 [some (.ref 73), none, some (.int l2), none, none, some (.int l5), some (.int l6), some (.int l7), some (.int l8), some (.int l9), some (.int l10)] [.int t1, .int t0] I J k = if l10 = 0 then zd S 43 97 [some (.ref 73), none, some (.int l2), none, none, some (.int l5), some (.int l6), some (.int l7), some (.int (t0 + t1)), some (.int l9), some (.int l10)] [] I J k else zd S 43 76 [some (.ref 73), none, some (.int l2), none, none, some (.int l5), some (.int l6), some (.int l7), some (.int (t0 + t1)), some (.int l9), some (.int l10)] [] I J k := by
  refine (tt_f rfl).trans ?_
  refine tt_bi.trans ?_
  refine (tt_f rfl).trans ?_
  refine (tt_is rfl rfl).trans ?_
  refine (tt_f rfl).trans ?_
  refine (tt_il rfl).trans ?_
  refine (tt_f rfl).trans ?_
  exact tt_f1 (p := fun x => x = 0) inferInstance rfl
theorem B43_76 {l2 : Int32} {l5 : Int32} {l6 : Int32} {l7 : Int32} {l8 : Int32} {l9 : Int32} {l10 : Int32}  : zd S 43 76 [some (.ref 73), none, some (.int l2), none, none, some (.int l5), some (.int l6), some (.int l7), some (.int l8), some (.int l9), some (.int l10)] [] I J k = if l7 ≤ 0 then zd S 43 89 [some (.ref 73), none, some (.int l2), none, none, some (.int l5), some (.int l6), some (.int l7), some (.int l8), some (.int l9), some (.int l10)] [.int l6, .int l8] I J k else zd S 43 85 [some (.ref 73), none, some (.int l2), none, none, some (.int l5), some (.int l6), some (.int l7), some (.int l8), some (.int l9), some (.int l10)] [.int l6, .int l8] I J k := by
  refine (tt_f rfl).trans ?_
  refine (tt_il rfl).trans ?_
  refine (tt_f rfl).trans ?_
  refine (tt_il rfl).trans ?_
  refine (tt_f rfl).trans ?_
  refine (tt_il rfl).trans ?_
  refine (tt_f rfl).trans ?_
  exact tt_f1 (p := fun x => x ≤ 0) inferInstance rfl
theorem B43_85 {l2 : Int32} {l5 : Int32} {l6 : Int32} {l7 : Int32} {l8 : Int32} {l9 : Int32} {l10 : Int32} {t0 : Int32} {t1 : Int32}  : zd S 43 85 [some (.ref 73), none, some (.int l2), none, none, some (.int l5), some (.int l6), some (.int l7), some (.int l8), some (.int l9), some (.int l10)] [.int t1, .int t0] I J k = if (t0 + (t1 + 1)) ≤ l5 then zd S 43 121 [some (.ref 73), none, some (.int l2), none, none, some (.int l5), some (.int l6), some (.int (l7 + (-1))), some (.int (t0 + (t1 + 1))), some (.int l9), some (.int l10)] [] I J k else zd S 43 104 [some (.ref 73), none, some (.int l2), none, none, some (.int l5), some (.int l6), some (.int (l7 + (-1))), some (.int (t0 + (t1 + 1))), some (.int l9), some (.int l10)] [] I J k := by
  refine (tt_f rfl).trans ?_
  refine tt_c.trans ?_
  refine (tt_f rfl).trans ?_
  refine tt_go.trans ?_
  refine (tt_fk rfl rfl).trans ?_
  refine tt_bi.trans ?_
  refine (tt_f rfl).trans ?_
  refine tt_bi.trans ?_
  refine (tt_f rfl).trans ?_
  refine (tt_is rfl rfl).trans ?_
  refine (tt_f rfl).trans ?_
  refine (tt_in rfl rfl).trans ?_
  refine (tt_fk rfl rfl).trans ?_
  refine (tt_il rfl).trans ?_
  refine (tt_f rfl).trans ?_
  refine (tt_il rfl).trans ?_
  refine (tt_f rfl).trans ?_
  exact tt_f2 (p := fun x y => y ≤ x) inferInstance rfl
theorem B43_89 {l2 : Int32} {l5 : Int32} {l6 : Int32} {l7 : Int32} {l8 : Int32} {l9 : Int32} {l10 : Int32} {t0 : Int32} {t1 : Int32}  : zd S 43 89 [some (.ref 73), none, some (.int l2), none, none, some (.int l5), some (.int l6), some (.int l7), some (.int l8), some (.int l9), some (.int l10)] [.int t1, .int t0] I J k = if (t0 + (t1 + 0)) ≤ l5 then zd S 43 121 [some (.ref 73), none, some (.int l2), none, none, some (.int l5), some (.int l6), some (.int (l7 + (-1))), some (.int (t0 + (t1 + 0))), some (.int l9), some (.int l10)] [] I J k else zd S 43 104 [some (.ref 73), none, some (.int l2), none, none, some (.int l5), some (.int l6), some (.int (l7 + (-1))), some (.int (t0 + (t1 + 0))), some (.int l9), some (.int l10)] [] I J k := by
  refine (tt_f rfl).trans ?_
  refine tt_c.trans ?_
  refine (tt_fk rfl rfl).trans ?_
  refine tt_bi.trans ?_
  refine (tt_f rfl).trans ?_
  refine tt_bi.trans ?_
  refine (tt_f rfl).trans ?_
  refine (tt_is rfl rfl).trans ?_
  refine (tt_f rfl).trans ?_
  refine (tt_in rfl rfl).trans ?_
  refine (tt_fk rfl rfl).trans ?_
  refine (tt_il rfl).trans ?_
  refine (tt_f rfl).trans ?_
  refine (tt_il rfl).trans ?_
  refine (tt_f rfl).trans ?_
  exact tt_f2 (p := fun x y => y ≤ x) inferInstance rfl
theorem B43_97 {l2 : Int32} {l5 : Int32} {l6 : Int32} {l7 : Int32} {l8 : Int32} {l9 : Int32} {l10 : Int32}  : zd S 43 97 [some (.ref 73), none, some (.int l2), none, none, some (.int l5), some (.int l6), some (.int l7), some (.int l8), some (.int l9), some (.int l10)] [] I J k = if l8 ≤ l5 then zd S 43 121 [some (.ref 73), none, some (.int l2), none, none, some (.int l5), some (.int l6), some (.int l7), some (.int l8), some (.int l9), some (.int l10)] [] I J k else zd S 43 104 [some (.ref 73), none, some (.int l2), none, none, some (.int l5), some (.int l6), some (.int l7), some (.int l8), some (.int l9), some (.int l10)] [] I J k := by
  refine (tt_fk rfl rfl).trans ?_
  refine (tt_il rfl).trans ?_
  refine (tt_f rfl).trans ?_
  refine (tt_il rfl).trans ?_
  refine (tt_f rfl).trans ?_
  exact tt_f2 (p := fun x y => y ≤ x) inferInstance rfl
theorem B43_104 {l2 : Int32} {l5 : Int32} {l6 : Int32} {l7 : Int32} {l8 : Int32} {l9 : Int32} {l10 : Int32}  : zd S 43 104 [some (.ref 73), none, some (.int l2), none, none, some (.int l5), some (.int l6), some (.int l7), some (.int l8), some (.int l9), some (.int l10)] [] I J k = if l10 = 0 then zd S 43 113 [some (.ref 73), none, some (.int l2), none, none, some (.int l5), some (.int l6), some (.int l7), some (.int l8), some (.int l9), some (.int l10)] [] I J k else zd S 43 109 [some (.ref 73), none, some (.int l2), none, none, some (.int l5), some (.int l6), some (.int l7), some (.int l8), some (.int l9), some (.int l10)] [] I J k := by
  refine (tt_f rfl).trans ?_
  refine (tt_il rfl).trans ?_
  refine (tt_f rfl).trans ?_
  exact tt_f1 (p := fun x => x = 0) inferInstance rfl
theorem B43_109 {l2 : Int32} {l5 : Int32} {l6 : Int32} {l7 : Int32} {l8 : Int32} {l9 : Int32} {l10 : Int32}  : zd S 43 109 [some (.ref 73), none, some (.int l2), none, none, some (.int l5), some (.int l6), some (.int l7), some (.int l8), some (.int l9), some (.int l10)] [] I J k = some ((some (.int 0)), mk I J, k) := by
  refine (tt_f rfl).trans ?_
  refine tt_c.trans ?_
  refine (tt_f rfl).trans ?_
  refine tt_go.trans ?_
  exact tt_r1 rfl rfl
theorem B43_113 {l2 : Int32} {l5 : Int32} {l6 : Int32} {l7 : Int32} {l8 : Int32} {l9 : Int32} {l10 : Int32} (hi1 : zin l9 480 = true) : zd S 43 113 [some (.ref 73), none, some (.int l2), none, none, some (.int l5), some (.int l6), some (.int l7), some (.int l8), some (.int l9), some (.int l10)] [] I J k = some ((some (.int (I 74 l9.toNatClampNeg))), mk I J, k) := by
  refine (tt_f rfl).trans ?_
  refine (tt_al rfl).trans ?_
  refine (tt_f rfl).trans ?_
  refine (tt_gr rfl rfl).trans ?_
  refine (tt_f rfl).trans ?_
  refine (tt_il rfl).trans ?_
  refine (tt_f rfl).trans ?_
  refine (tt_ga rfl rfl hi1).trans ?_
  exact tt_r1 rfl rfl
theorem B43_121 {l2 : Int32} {l5 : Int32} {l6 : Int32} {l7 : Int32} {l8 : Int32} {l9 : Int32} {l10 : Int32}  : zd S 43 121 [some (.ref 73), none, some (.int l2), none, none, some (.int l5), some (.int l6), some (.int l7), some (.int l8), some (.int l9), some (.int l10)] [] I J k = zd S 43 30 [some (.ref 73), none, some (.int l2), none, none, some (.int l5), some (.int l6), some (.int l7), some (.int l8), some (.int (l9 + 1)), some (.int l10)] [] I J k := by
  refine (tt_f rfl).trans ?_
  refine (tt_in rfl rfl).trans ?_
  refine (tt_f rfl).trans ?_
  refine tt_go.trans ?_
  rfl
theorem B43_127 {l2 : Int32} {l5 : Int32} {l6 : Int32} {l7 : Int32} {l8 : Int32} {l9 : Int32}  : zd S 43 127 [some (.ref 73), none, some (.int l2), none, none, some (.int l5), some (.int l6), some (.int l7), some (.int l8), some (.int l9), none] [] I J k = some ((some (.int 0)), mk I J, k) := by
  refine (tt_f rfl).trans ?_
  refine tt_c.trans ?_
  exact tt_r1 rfl rfl
end BL
