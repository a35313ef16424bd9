section BL
variable {S : Nat × (Nat → Int32)} {I : zI} {J : zJ} {k : zK}
/-! 119: EditionGridModel.isWordEnd -/
theorem B119_0 {l1 : Int32} {l2 : Int32}  : zd S 119 0 [some (.ref 76), some (.int l1), some (.int l2), none, none] [] I J k = zd S 119 5 [some (.ref 76), some (.int l1), some (.int l2), some (.int 0), some (.int 0)] [] I J k := by
  refine (tt_f rfl).trans ?_
  refine tt_c.trans ?_
  refine (tt_f rfl).trans ?_
  refine (tt_is rfl rfl).trans ?_
  refine (tt_f rfl).trans ?_
  refine tt_c.trans ?_
  refine (tt_f rfl).trans ?_
  refine (tt_is rfl rfl).trans ?_
  rfl
theorem B119_5 {l1 : Int32} {l2 : Int32} {l3 : Int32} {l4 : Int32} (hi1 : zin l1 20 = true) : zd S 119 5 [some (.ref 76), some (.int l1), some (.int l2), some (.int l3), some (.int l4)] [] I J k = if (I 91 l1.toNatClampNeg) ≤ l4 then zd S 119 48 [some (.ref 76), some (.int l1), some (.int l2), some (.int l3), some (.int l4)] [] I J k else zd S 119 16 [some (.ref 76), some (.int l1), some (.int l2), some (.int l3), some (.int l4)] [] I J k := by
  refine (tt_fk rfl rfl).trans ?_
  refine (tt_il rfl).trans ?_
  refine (tt_f rfl).trans ?_
  refine (tt_al rfl).trans ?_
  refine (tt_f rfl).trans ?_
  refine (tt_gr rfl rfl).trans ?_
  refine (tt_f rfl).trans ?_
  refine (tt_il rfl).trans ?_
  refine (tt_f rfl).trans ?_
  refine (tt_ga rfl rfl hi1).trans ?_
  refine (tt_f rfl).trans ?_
  exact tt_f2 (p := fun x y => y ≤ x) inferInstance rfl
theorem B119_16 {l1 : Int32} {l2 : Int32} {l3 : Int32} {l4 : Int32}  : zd S 119 16 [some (.ref 76), some (.int l1), some (.int l2), some (.int l3), some (.int l4)] [] I J k = if ¬ l3 = 0 then zd S 119 36 [some (.ref 76), some (.int l1), some (.int l2), some (.int l3), some (.int l4)] [] I J k else zd S 119 20 [some (.ref 76), some (.int l1), some (.int l2), some (.int l3), some (.int l4)] [] I J k := by
  refine (tt_f rfl).trans ?_
  refine (tt_il rfl).trans ?_
  refine (tt_f rfl).trans ?_
  exact tt_f1 (p := fun x => ¬ x = 0) inferInstance rfl
theorem B119_20 {l1 : Int32} {l2 : Int32} {l3 : Int32} {l4 : Int32} (hi1 : zin ((16 * l1) + l4) 320 = true) : zd S 119 20 [some (.ref 76), some (.int l1), some (.int l2), some (.int l3), some (.int l4)] [] I J k = if ¬ (I 90 ((16 * l1) + l4).toNatClampNeg) = l2 then zd S 119 40 [some (.ref 76), some (.int l1), some (.int l2), some (.int l3), some (.int l4)] [] I J k else zd S 119 36 [some (.ref 76), some (.int l1), some (.int l2), some (.int l3), some (.int l4)] [] I J k := by
  refine (tt_f rfl).trans ?_
  refine (tt_al rfl).trans ?_
  refine (tt_f rfl).trans ?_
  refine (tt_gr rfl rfl).trans ?_
  refine (tt_f rfl).trans ?_
  refine tt_c.trans ?_
  refine (tt_f rfl).trans ?_
  refine (tt_il rfl).trans ?_
  refine (tt_f rfl).trans ?_
  refine tt_bi.trans ?_
  refine (tt_f rfl).trans ?_
  refine (tt_il rfl).trans ?_
  refine (tt_f rfl).trans ?_
  refine tt_bi.trans ?_
  refine (tt_f rfl).trans ?_
  refine (tt_ga rfl rfl hi1).trans ?_
  refine (tt_f rfl).trans ?_
  refine (tt_il rfl).trans ?_
  refine (tt_f rfl).trans ?_
  exact tt_f2 (p := fun x y => ¬ x = y) inferInstance rfl
theorem B119_36 {l1 : Int32} {l2 : Int32} {l3 : Int32} {l4 : Int32}  : zd S 119 36 [some (.ref 76), some (.int l1), some (.int l2), some (.int l3), some (.int l4)] [] I J k = zd S 119 5 [some (.ref 76), some (.int l1), some (.int l2), some (.int 1), some (.int (l4 + 1))] [] I J k := by
  refine (tt_fk rfl rfl).trans ?_
  refine tt_c.trans ?_
  refine (tt_f rfl).trans ?_
  refine tt_go.trans ?_
  refine (tt_fk rfl rfl).trans ?_
  refine (tt_is rfl rfl).trans ?_
  refine (tt_f rfl).trans ?_
  refine (tt_in rfl rfl).trans ?_
  refine (tt_f rfl).trans ?_
  refine tt_go.trans ?_
  rfl
theorem B119_40 {l1 : Int32} {l2 : Int32} {l3 : Int32} {l4 : Int32}  : zd S 119 40 [some (.ref 76), some (.int l1), some (.int l2), some (.int l3), some (.int l4)] [] I J k = zd S 119 5 [some (.ref 76), some (.int l1), some (.int l2), some (.int 0), some (.int (l4 + 1))] [] I J k := by
  refine (tt_f rfl).trans ?_
  refine tt_c.trans ?_
  refine (tt_fk rfl rfl).trans ?_
  refine (tt_is rfl rfl).trans ?_
  refine (tt_f rfl).trans ?_
  refine (tt_in rfl rfl).trans ?_
  refine (tt_f rfl).trans ?_
  refine tt_go.trans ?_
  rfl
theorem B119_48 {l1 : Int32} {l2 : Int32} {l3 : Int32} {l4 : Int32} (hz : zrt 2 (.int l3) = true) : zd S 119 48 [some (.ref 76), some (.int l1), some (.int l2), some (.int l3), some (.int l4)] [] I J k = some ((some (.int l3)), mk I J, k) := by
  refine (tt_f rfl).trans ?_
  refine (tt_il rfl).trans ?_
  exact tt_r1 rfl hz
/-! 120: EditionGridModel.spaces -/
theorem B120_0 {l1 : Int32} {l2 : Int32} {l3 : Int32}  : zd S 120 0 [some (.ref 76), some (.int l1), some (.int l2), some (.int l3), none, none] [] I J k = zd S 120 8 [some (.ref 76), some (.int l1), some (.int l2), some (.int l3), some (.int 0), some (.int (l2 + 1))] [] I J k := by
  refine (tt_f rfl).trans ?_
  refine tt_c.trans ?_
  refine (tt_f rfl).trans ?_
  refine (tt_is rfl rfl).trans ?_
  refine (tt_f rfl).trans ?_
  refine (tt_il rfl).trans ?_
  refine (tt_f rfl).trans ?_
  refine tt_c.trans ?_
  refine (tt_f rfl).trans ?_
  refine tt_bi.trans ?_
  refine (tt_f rfl).trans ?_
  refine (tt_is rfl rfl).trans ?_
  rfl
theorem B120_8 {l1 : Int32} {o2 : Option Value} {l3 : Int32} {l4 : Int32} {l5 : Int32}  : zd S 120 8 [some (.ref 76), some (.int l1), o2, some (.int l3), some (.int l4), some (.int l5)] [] I J k = if l3 ≤ l5 then zd S 120 41 [some (.ref 76), some (.int l1), none, some (.int l3), some (.int l4), some (.int l5)] [] I J k else zd S 120 14 [some (.ref 76), some (.int l1), none, some (.int l3), some (.int l4), some (.int l5)] [] I J k := by
  refine (tt_fk rfl rfl).trans ?_
  refine (tt_il rfl).trans ?_
  refine (tt_f rfl).trans ?_
  refine (tt_il rfl).trans ?_
  refine (tt_f rfl).trans ?_
  exact tt_f2 (p := fun x y => y ≤ x) inferInstance rfl
theorem B120_14 {l1 : Int32} {l3 : Int32} {l4 : Int32} {l5 : Int32} {v1 : Int32} {I2 : zI} {J3 : zJ} (hb : Nat.ble k.1 (mBu 120).1 = true ∧ Nat.ble k.2 (mBu 120).2 = true) (hq : zq S 119 [.ref 76, .int l1, .int l5] I J (some (.int v1)) I2 J3) : zd S 120 14 [some (.ref 76), some (.int l1), none, some (.int l3), some (.int l4), some (.int l5)] [] I J k = zd S 120 21 [some (.ref 76), some (.int l1), none, some (.int l3), some (.int l4), some (.int l5)] [.int v1] I2 J3 k := by
  refine (tt_f rfl).trans ?_
  refine (tt_al rfl).trans ?_
  refine (tt_f rfl).trans ?_
  refine (tt_il rfl).trans ?_
  refine (tt_f rfl).trans ?_
  refine (tt_il rfl).trans ?_
  exact tt_cv (As := [.int l1, .int l5]) rfl hb.1 hb.2 rfl rfl rfl rfl rfl hq
theorem B120_21 {l1 : Int32} {l3 : Int32} {l4 : Int32} {l5 : Int32} {t0 : Int32}  : zd S 120 21 [some (.ref 76), some (.int l1), none, some (.int l3), some (.int l4), some (.int l5)] [.int t0] I J k = if t0 = 0 then zd S 120 31 [some (.ref 76), some (.int l1), none, some (.int l3), some (.int l4), some (.int l5)] [] I J k else zd S 120 24 [some (.ref 76), some (.int l1), none, some (.int l3), some (.int l4), some (.int l5)] [] I J k := by
  refine (tt_f rfl).trans ?_
  exact tt_f1 (p := fun x => x = 0) inferInstance rfl
theorem B120_24 {l1 : Int32} {l3 : Int32} {l4 : Int32} {l5 : Int32}  : zd S 120 24 [some (.ref 76), some (.int l1), none, some (.int l3), some (.int l4), some (.int l5)] [] I J k = zd S 120 8 [some (.ref 76), some (.int l1), none, some (.int l3), some (.int (l4 + 1)), some (.int (l5 + 1))] [] I J k := by
  refine (tt_f rfl).trans ?_
  refine (tt_il rfl).trans ?_
  refine (tt_f rfl).trans ?_
  refine tt_c.trans ?_
  refine (tt_f rfl).trans ?_
  refine tt_bi.trans ?_
  refine (tt_f rfl).trans ?_
  refine tt_go.trans ?_
  refine (tt_fk rfl rfl).trans ?_
  refine (tt_is rfl rfl).trans ?_
  refine (tt_f rfl).trans ?_
  refine (tt_in rfl rfl).trans ?_
  refine (tt_f rfl).trans ?_
  refine tt_go.trans ?_
  rfl
theorem B120_31 {l1 : Int32} {l3 : Int32} {l4 : Int32} {l5 : Int32}  : zd S 120 31 [some (.ref 76), some (.int l1), none, some (.int l3), some (.int l4), some (.int l5)] [] I J k = zd S 120 8 [some (.ref 76), some (.int l1), none, some (.int l3), some (.int l4), some (.int (l5 + 1))] [] I J k := by
  refine (tt_f rfl).trans ?_
  refine (tt_il rfl).trans ?_
  refine (tt_fk rfl rfl).trans ?_
  refine (tt_is rfl rfl).trans ?_
  refine (tt_f rfl).trans ?_
  refine (tt_in rfl rfl).trans ?_
  refine (tt_f rfl).trans ?_
  refine tt_go.trans ?_
  rfl
theorem B120_41 {l1 : Int32} {l3 : Int32} {l4 : Int32} {l5 : Int32}  : zd S 120 41 [some (.ref 76), some (.int l1), none, some (.int l3), some (.int l4), some (.int l5)] [] I J k = some ((some (.int l4)), mk I J, k) := by
  refine (tt_f rfl).trans ?_
  refine (tt_il rfl).trans ?_
  exact tt_r1 rfl rfl
/-! 121: EditionGridModel.widthOf -/
theorem B121_0 {l1 : Int32} {l2 : Int32} {l3 : Int32} {v1 : Int32} {I2 : zI} {J3 : zJ} (hb : Nat.ble k.1 (mBu 121).1 = true ∧ Nat.ble k.2 (mBu 121).2 = true) (hq : zq S 120 [.ref 76, .int l1, .int l2, .int l3] I J (some (.int v1)) I2 J3) : zd S 121 0 [some (.ref 76), some (.int l1), some (.int l2), some (.int l3), none, none] [] I J k = zd S 121 8 [some (.ref 76), some (.int l1), some (.int l2), some (.int l3), none, none] [.int v1, .int 3] I2 J3 k := by
  refine (tt_f rfl).trans ?_
  refine tt_c.trans ?_
  refine (tt_f rfl).trans ?_
  refine (tt_al rfl).trans ?_
  refine (tt_f rfl).trans ?_
  refine (tt_il rfl).trans ?_
  refine (tt_f rfl).trans ?_
  refine (tt_il rfl).trans ?_
  refine (tt_f rfl).trans ?_
  refine (tt_il rfl).trans ?_
  exact tt_cv (As := [.int l1, .int l2, .int l3]) rfl hb.1 hb.2 rfl rfl rfl rfl rfl hq
theorem B121_8 {l1 : Int32} {l2 : Int32} {l3 : Int32} {t0 : Int32} {t1 : Int32} {v1 : Int32} {I2 : zI} {J3 : zJ} (hb : Nat.ble k.1 (mBu 121).1 = true ∧ Nat.ble k.2 (mBu 121).2 = true) (hq : zq S 119 [.ref 76, .int l1, .int l3] I J (some (.int v1)) I2 J3) : zd S 121 8 [some (.ref 76), some (.int l1), some (.int l2), some (.int l3), none, none] [.int t1, .int t0] I J k = zd S 121 15 [some (.ref 76), some (.int l1), some (.int l2), some (.int l3), none, none] [.int v1, .int (t0 * t1)] I2 J3 k := by
  refine (tt_f rfl).trans ?_
  refine tt_bi.trans ?_
  refine (tt_f rfl).trans ?_
  refine (tt_al rfl).trans ?_
  refine (tt_f rfl).trans ?_
  refine (tt_il rfl).trans ?_
  refine (tt_f rfl).trans ?_
  refine (tt_il rfl).trans ?_
  exact tt_cv (As := [.int l1, .int l3]) rfl hb.1 hb.2 rfl rfl rfl rfl rfl hq
theorem B121_15 {l1 : Int32} {l2 : Int32} {l3 : Int32} {t0 : Int32} {t1 : Int32}  : zd S 121 15 [some (.ref 76), some (.int l1), some (.int l2), some (.int l3), none, none] [.int t1, .int t0] I J k = if t1 = 0 then zd S 121 22 [some (.ref 76), some (.int l1), some (.int l2), some (.int l3), none, none] [.int t0] I J k else zd S 121 18 [some (.ref 76), some (.int l1), some (.int l2), some (.int l3), none, none] [.int t0] I J k := by
  refine (tt_f rfl).trans ?_
  exact tt_f1 (p := fun x => x = 0) inferInstance rfl
theorem B121_18 {l1 : Int32} {l2 : Int32} {l3 : Int32} {t0 : Int32}  : zd S 121 18 [some (.ref 76), some (.int l1), some (.int l2), some (.int l3), none, none] [.int t0] I J k = zd S 121 29 [some (.ref 76), some (.int l1), some (.int l2), some (.int l3), some (.int (t0 + 0)), some (.int l2)] [] I J k := by
  refine (tt_f rfl).trans ?_
  refine tt_c.trans ?_
  refine (tt_f rfl).trans ?_
  refine tt_go.trans ?_
  refine (tt_fk rfl rfl).trans ?_
  refine tt_bi.trans ?_
  refine (tt_f rfl).trans ?_
  refine (tt_is rfl rfl).trans ?_
  refine (tt_f rfl).trans ?_
  refine (tt_il rfl).trans ?_
  refine (tt_f rfl).trans ?_
  refine (tt_is rfl rfl).trans ?_
  rfl
theorem B121_22 {l1 : Int32} {l2 : Int32} {l3 : Int32} {t0 : Int32}  : zd S 121 22 [some (.ref 76), some (.int l1), some (.int l2), some (.int l3), none, none] [.int t0] I J k = zd S 121 29 [some (.ref 76), some (.int l1), some (.int l2), some (.int l3), some (.int (t0 + 2)), some (.int l2)] [] I J k := by
  refine (tt_f rfl).trans ?_
  refine tt_c.trans ?_
  refine (tt_fk rfl rfl).trans ?_
  refine tt_bi.trans ?_
  refine (tt_f rfl).trans ?_
  refine (tt_is rfl rfl).trans ?_
  refine (tt_f rfl).trans ?_
  refine (tt_il rfl).trans ?_
  refine (tt_f rfl).trans ?_
  refine (tt_is rfl rfl).trans ?_
  rfl
theorem B121_29 {l1 : Int32} {o2 : Option Value} {l3 : Int32} {l4 : Int32} {l5 : Int32}  : zd S 121 29 [some (.ref 76), some (.int l1), o2, some (.int l3), some (.int l4), some (.int l5)] [] I J k = if l3 ≤ l5 then zd S 121 67 [some (.ref 76), some (.int l1), none, some (.int l3), some (.int l4), some (.int l5)] [] I J k else zd S 121 35 [some (.ref 76), some (.int l1), none, some (.int l3), some (.int l4), some (.int l5)] [] I J k := by
  refine (tt_fk rfl rfl).trans ?_
  refine (tt_il rfl).trans ?_
  refine (tt_f rfl).trans ?_
  refine (tt_il rfl).trans ?_
  refine (tt_f rfl).trans ?_
  exact tt_f2 (p := fun x y => y ≤ x) inferInstance rfl
theorem B121_35 {l1 : Int32} {l3 : Int32} {l4 : Int32} {l5 : Int32} (hi1 : zin ((192 * l1) + l5) 3840 = true) (hi2 : zin ((I 89 ((192 * l1) + l5).toNatClampNeg) - 97) 26 = true) : zd S 121 35 [some (.ref 76), some (.int l1), none, some (.int l3), some (.int l4), some (.int l5)] [] I J k = zd S 121 29 [some (.ref 76), some (.int l1), none, some (.int l3), some (.int (l4 + (I 78 ((I 89 ((192 * l1) + l5).toNatClampNeg) - 97).toNatClampNeg))), some (.int (l5 + 1))] [] I J k := by
  refine (tt_f rfl).trans ?_
  refine (tt_il rfl).trans ?_
  refine (tt_f rfl).trans ?_
  refine (tt_al rfl).trans ?_
  refine (tt_f rfl).trans ?_
  refine (tt_gr rfl rfl).trans ?_
  refine (tt_f rfl).trans ?_
  refine (tt_al rfl).trans ?_
  refine (tt_f rfl).trans ?_
  refine (tt_gr rfl rfl).trans ?_
  refine (tt_f rfl).trans ?_
  refine tt_c.trans ?_
  refine (tt_f rfl).trans ?_
  refine (tt_il rfl).trans ?_
  refine (tt_f rfl).trans ?_
  refine tt_bi.trans ?_
  refine (tt_f rfl).trans ?_
  refine (tt_il rfl).trans ?_
  refine (tt_f rfl).trans ?_
  refine tt_bi.trans ?_
  refine (tt_f rfl).trans ?_
  refine (tt_ga rfl rfl hi1).trans ?_
  refine (tt_f rfl).trans ?_
  refine tt_c.trans ?_
  refine (tt_f rfl).trans ?_
  refine tt_bi.trans ?_
  refine (tt_f rfl).trans ?_
  refine (tt_ga rfl rfl hi2).trans ?_
  refine (tt_f rfl).trans ?_
  refine tt_bi.trans ?_
  refine (tt_f rfl).trans ?_
  refine (tt_is rfl rfl).trans ?_
  refine (tt_f rfl).trans ?_
  refine (tt_in rfl rfl).trans ?_
  refine (tt_f rfl).trans ?_
  refine tt_go.trans ?_
  rfl
theorem B121_67 {l1 : Int32} {l3 : Int32} {l4 : Int32} {l5 : Int32}  : zd S 121 67 [some (.ref 76), some (.int l1), none, some (.int l3), some (.int l4), some (.int l5)] [] I J k = some ((some (.int l4)), mk I J, k) := by
  refine (tt_f rfl).trans ?_
  refine (tt_il rfl).trans ?_
  exact tt_r1 rfl rfl
/-! 122: EditionGridModel.costOf -/
theorem B122_0 {l1 : Int32} {l2 : Int32} {l3 : Int32} (hi1 : zin l2 193 = true) : zd S 122 0 [some (.ref 76), some (.int l1), some (.int l2), some (.int l3), none] [] I J k = if (I 100 l2.toNatClampNeg) = 0 then zd S 122 19 [some (.ref 76), some (.int l1), some (.int l2), some (.int l3), none] [.int ((I 76 2) - l1)] I J k else zd S 122 15 [some (.ref 76), some (.int l1), some (.int l2), some (.int l3), none] [.int ((I 76 2) - l1)] I J k := by
  refine (tt_f rfl).trans ?_
  refine (tt_al rfl).trans ?_
  refine (tt_f rfl).trans ?_
  refine (tt_gi rfl rfl).trans ?_
  refine (tt_f rfl).trans ?_
  refine (tt_il rfl).trans ?_
  refine (tt_f rfl).trans ?_
  refine tt_bi.trans ?_
  refine (tt_f rfl).trans ?_
  refine (tt_al rfl).trans ?_
  refine (tt_f rfl).trans ?_
  refine (tt_gr rfl rfl).trans ?_
  refine (tt_f rfl).trans ?_
  refine (tt_il rfl).trans ?_
  refine (tt_f rfl).trans ?_
  refine (tt_ga rfl rfl hi1).trans ?_
  refine (tt_f rfl).trans ?_
  exact tt_f1 (p := fun x => x = 0) inferInstance rfl
theorem B122_15 {l1 : Int32} {l2 : Int32} {l3 : Int32} {t0 : Int32}  : zd S 122 15 [some (.ref 76), some (.int l1), some (.int l2), some (.int l3), none] [.int t0] I J k = if 0 ≤ (t0 - 0) then zd S 122 30 [some (.ref 76), none, some (.int l2), some (.int l3), some (.int (t0 - 0))] [] I J k else zd S 122 28 [some (.ref 76), none, some (.int l2), some (.int l3), some (.int (t0 - 0))] [] I J k := by
  refine (tt_f rfl).trans ?_
  refine tt_c.trans ?_
  refine (tt_f rfl).trans ?_
  refine tt_go.trans ?_
  refine (tt_fk rfl rfl).trans ?_
  refine tt_bi.trans ?_
  refine (tt_f rfl).trans ?_
  refine (tt_is rfl rfl).trans ?_
  refine (tt_f rfl).trans ?_
  refine (tt_il rfl).trans ?_
  refine (tt_f rfl).trans ?_
  exact tt_f1 (p := fun x => 0 ≤ x) inferInstance rfl
theorem B122_19 {l1 : Int32} {l2 : Int32} {l3 : Int32} {t0 : Int32}  : zd S 122 19 [some (.ref 76), some (.int l1), some (.int l2), some (.int l3), none] [.int t0] I J k = if 0 ≤ (t0 - 2) then zd S 122 30 [some (.ref 76), none, some (.int l2), some (.int l3), some (.int (t0 - 2))] [] I J k else zd S 122 28 [some (.ref 76), none, some (.int l2), some (.int l3), some (.int (t0 - 2))] [] I J k := by
  refine (tt_f rfl).trans ?_
  refine tt_c.trans ?_
  refine (tt_fk rfl rfl).trans ?_
  refine tt_bi.trans ?_
  refine (tt_f rfl).trans ?_
  refine (tt_is rfl rfl).trans ?_
  refine (tt_f rfl).trans ?_
  refine (tt_il rfl).trans ?_
  refine (tt_f rfl).trans ?_
  exact tt_f1 (p := fun x => 0 ≤ x) inferInstance rfl
theorem B122_28 {l2 : Int32} {l3 : Int32} {l4 : Int32}  : zd S 122 28 [some (.ref 76), none, some (.int l2), some (.int l3), some (.int l4)] [] I J k = some ((some (.int (-1))), mk I J, k) := by
  refine (tt_f rfl).trans ?_
  refine tt_c.trans ?_
  exact tt_r1 rfl rfl
theorem B122_30 {l2 : Int32} {l3 : Int32} {l4 : Int32}  : zd S 122 30 [some (.ref 76), none, some (.int l2), some (.int l3), some (.int l4)] [] I J k = if ¬ l2 = l3 then zd S 122 39 [some (.ref 76), none, some (.int l2), some (.int l3), some (.int l4)] [] I J k else zd S 122 35 [some (.ref 76), none, some (.int l2), some (.int l3), some (.int l4)] [] I J k := by
  refine (tt_f rfl).trans ?_
  refine (tt_il rfl).trans ?_
  refine (tt_f rfl).trans ?_
  refine (tt_il rfl).trans ?_
  refine (tt_f rfl).trans ?_
  exact tt_f2 (p := fun x y => ¬ x = y) inferInstance rfl
theorem B122_35 {l2 : Int32} {l3 : Int32} {l4 : Int32}  : zd S 122 35 [some (.ref 76), none, some (.int l2), some (.int l3), some (.int l4)] [] I J k = some ((some (.int 0)), mk I J, k) := by
  refine (tt_f rfl).trans ?_
  refine tt_c.trans ?_
  refine (tt_f rfl).trans ?_
  refine tt_go.trans ?_
  exact tt_r1 rfl rfl
theorem B122_39 {l2 : Int32} {l3 : Int32} {l4 : Int32} (hi1 : zin l2 193 = true) : zd S 122 39 [some (.ref 76), none, some (.int l2), some (.int l3), some (.int l4)] [] I J k = if (I 100 l2.toNatClampNeg) = 0 then zd S 122 57 [some (.ref 76), none, some (.int l2), some (.int l3), some (.int l4)] [.int (l4 * l4)] I J k else zd S 122 53 [some (.ref 76), none, some (.int l2), some (.int l3), some (.int l4)] [.int (l4 * l4)] I J k := by
  refine (tt_f rfl).trans ?_
  refine (tt_il rfl).trans ?_
  refine (tt_f rfl).trans ?_
  refine (tt_il rfl).trans ?_
  refine (tt_f rfl).trans ?_
  refine tt_bi.trans ?_
  refine (tt_f rfl).trans ?_
  refine (tt_al rfl).trans ?_
  refine (tt_f rfl).trans ?_
  refine (tt_gr rfl rfl).trans ?_
  refine (tt_f rfl).trans ?_
  refine (tt_il rfl).trans ?_
  refine (tt_f rfl).trans ?_
  refine (tt_ga rfl rfl hi1).trans ?_
  refine (tt_f rfl).trans ?_
  exact tt_f1 (p := fun x => x = 0) inferInstance rfl
theorem B122_53 {l2 : Int32} {l3 : Int32} {l4 : Int32} {t0 : Int32}  : zd S 122 53 [some (.ref 76), none, some (.int l2), some (.int l3), some (.int l4)] [.int t0] I J k = some ((some (.int (t0 + 0))), mk I J, k) := by
  refine (tt_f rfl).trans ?_
  refine tt_c.trans ?_
  refine (tt_f rfl).trans ?_
  refine tt_go.trans ?_
  refine (tt_fk rfl rfl).trans ?_
  refine tt_bi.trans ?_
  exact tt_r1 rfl rfl
theorem B122_57 {l2 : Int32} {l3 : Int32} {l4 : Int32} {t0 : Int32}  : zd S 122 57 [some (.ref 76), none, some (.int l2), some (.int l3), some (.int l4)] [.int t0] I J k = some ((some (.int (t0 + 100))), mk I J, k) := by
  refine (tt_f rfl).trans ?_
  refine tt_c.trans ?_
  refine (tt_fk rfl rfl).trans ?_
  refine tt_bi.trans ?_
  exact tt_r1 rfl rfl
/-! 123: EditionGridModel.breakUp -/
theorem B123_0 {l1 : Int32} {I2 : zI} {J3 : zJ} (hb : Nat.ble k.1 (mBu 123).1 = true ∧ Nat.ble k.2 (mBu 123).2 = true) (hi1 : zin l1 20 = true) (hq : zq S 118 [.ref 76, .int l1] I J none I2 J3) : zd S 123 0 [some (.ref 76), some (.int l1), none, none, none, none, none] [] I J k = zd S 123 12 [some (.ref 76), some (.int l1), some (.int (I 92 l1.toNatClampNeg)), none, none, none, none] [] I2 J3 k := by
  refine (tt_f rfl).trans ?_
  refine (tt_al rfl).trans ?_
  refine (tt_f rfl).trans ?_
  refine (tt_gr rfl rfl).trans ?_
  refine (tt_f rfl).trans ?_
  refine (tt_il rfl).trans ?_
  refine (tt_f rfl).trans ?_
  refine (tt_ga rfl rfl hi1).trans ?_
  refine (tt_f rfl).trans ?_
  refine (tt_is rfl rfl).trans ?_
  refine (tt_f rfl).trans ?_
  refine (tt_al rfl).trans ?_
  refine (tt_f rfl).trans ?_
  refine (tt_il rfl).trans ?_
  exact tt_cv (As := [.int l1]) rfl hb.1 hb.2 rfl rfl rfl rfl rfl hq
theorem B123_12 {l1 : Int32} {l2 : Int32} (hi1 : zin l2 193 = true) : zd S 123 12 [some (.ref 76), some (.int l1), some (.int l2), none, none, none, none] [] I J k = zd S 123 19 [some (.ref 76), some (.int l1), some (.int l2), none, none, none, none] [] (u2 I 101 l2.toNatClampNeg 0) J k := by
  refine (tt_f rfl).trans ?_
  refine (tt_al rfl).trans ?_
  refine (tt_f rfl).trans ?_
  refine (tt_gr rfl rfl).trans ?_
  refine (tt_f rfl).trans ?_
  refine (tt_il rfl).trans ?_
  refine (tt_f rfl).trans ?_
  refine tt_c.trans ?_
  refine (tt_f rfl).trans ?_
  exact tt_pa rfl rfl hi1
theorem B123_19 {l1 : Int32} {l2 : Int32}  : zd S 123 19 [some (.ref 76), some (.int l1), some (.int l2), none, none, none, none] [] I J k = zd S 123 23 [some (.ref 76), some (.int l1), some (.int l2), some (.int (l2 - 1)), none, none, none] [] I J k := by
  refine (tt_f rfl).trans ?_
  refine (tt_il rfl).trans ?_
  refine (tt_f rfl).trans ?_
  refine tt_c.trans ?_
  refine (tt_f rfl).trans ?_
  refine tt_bi.trans ?_
  refine (tt_f rfl).trans ?_
  refine (tt_is rfl rfl).trans ?_
  rfl
theorem B123_23 {l1 : Int32} {l2 : Int32} {l3 : Int32}  : zd S 123 23 [some (.ref 76), some (.int l1), some (.int l2), some (.int l3), none, none, none] [] I J k = if l3 < 0 then zd S 123 228 [some (.ref 76), some (.int l1), some (.int l2), some (.int l3), none, none, none] [] I J k else zd S 123 27 [some (.ref 76), some (.int l1), some (.int l2), some (.int l3), none, none, none] [] I J k := by
  refine (tt_fk rfl rfl).trans ?_
  refine (tt_il rfl).trans ?_
  refine (tt_f rfl).trans ?_
  exact tt_f1 (p := fun x => x < 0) inferInstance rfl
theorem B123_27 {l1 : Int32} {l2 : Int32} {l3 : Int32} (hi1 : zin l3 193 = true) : zd S 123 27 [some (.ref 76), some (.int l1), some (.int l2), some (.int l3), none, none, none] [] I J k = zd S 123 34 [some (.ref 76), some (.int l1), some (.int l2), some (.int l3), none, none, none] [] (u2 I 101 l3.toNatClampNeg (-1)) J k := by
  refine (tt_f rfl).trans ?_
  refine (tt_al rfl).trans ?_
  refine (tt_f rfl).trans ?_
  refine (tt_gr rfl rfl).trans ?_
  refine (tt_f rfl).trans ?_
  refine (tt_il rfl).trans ?_
  refine (tt_f rfl).trans ?_
  refine tt_c.trans ?_
  refine (tt_f rfl).trans ?_
  exact tt_pa rfl rfl hi1
theorem B123_34 {l1 : Int32} {l2 : Int32} {l3 : Int32}  : zd S 123 34 [some (.ref 76), some (.int l1), some (.int l2), some (.int l3), none, none, none] [] I J k = zd S 123 42 [some (.ref 76), some (.int l1), some (.int l2), some (.int l3), some (.int 0), some (.int (l3 + 1)), none] [] I J k := by
  refine (tt_f rfl).trans ?_
  refine tt_c.trans ?_
  refine (tt_f rfl).trans ?_
  refine (tt_is rfl rfl).trans ?_
  refine (tt_f rfl).trans ?_
  refine (tt_il rfl).trans ?_
  refine (tt_f rfl).trans ?_
  refine tt_c.trans ?_
  refine (tt_f rfl).trans ?_
  refine tt_bi.trans ?_
  refine (tt_f rfl).trans ?_
  refine (tt_is rfl rfl).trans ?_
  rfl
theorem B123_42 {l1 : Int32} {l2 : Int32} {l3 : Int32} {l4 : Int32} {l5 : Int32}  : zd S 123 42 [some (.ref 76), some (.int l1), some (.int l2), some (.int l3), some (.int l4), some (.int l5), none] [] I J k = if l2 < l5 then zd S 123 222 [some (.ref 76), some (.int l1), some (.int l2), some (.int l3), some (.int l4), some (.int l5), none] [] I J k else zd S 123 48 [some (.ref 76), some (.int l1), some (.int l2), some (.int l3), some (.int l4), some (.int l5), none] [] I J k := by
  refine (tt_fk rfl rfl).trans ?_
  refine (tt_il rfl).trans ?_
  refine (tt_f rfl).trans ?_
  refine (tt_il rfl).trans ?_
  refine (tt_f rfl).trans ?_
  exact tt_f2 (p := fun x y => y < x) inferInstance rfl
theorem B123_48 {l1 : Int32} {l2 : Int32} {l3 : Int32} {l4 : Int32} {l5 : Int32}  : zd S 123 48 [some (.ref 76), some (.int l1), some (.int l2), some (.int l3), some (.int l4), some (.int l5), none] [] I J k = if (I 76 2) < l4 then zd S 123 222 [some (.ref 76), some (.int l1), some (.int l2), some (.int l3), some (.int l4), some (.int l5), none] [] I J k else zd S 123 57 [some (.ref 76), some (.int l1), some (.int l2), some (.int l3), some (.int l4), some (.int l5), none] [] I J k := by
  refine (tt_f rfl).trans ?_
  refine (tt_il rfl).trans ?_
  refine (tt_f rfl).trans ?_
  refine (tt_al rfl).trans ?_
  refine (tt_f rfl).trans ?_
  refine (tt_gi rfl rfl).trans ?_
  refine (tt_f rfl).trans ?_
  exact tt_f2 (p := fun x y => y < x) inferInstance rfl
theorem B123_57 {l1 : Int32} {l2 : Int32} {l3 : Int32} {l4 : Int32} {l5 : Int32}  : zd S 123 57 [some (.ref 76), some (.int l1), some (.int l2), some (.int l3), some (.int l4), some (.int l5), none] [] I J k = if l3 = 0 then zd S 123 70 [some (.ref 76), some (.int l1), some (.int l2), some (.int l3), some (.int l4), some (.int l5), none] [] I J k else zd S 123 61 [some (.ref 76), some (.int l1), some (.int l2), some (.int l3), some (.int l4), some (.int l5), none] [] I J k := by
  refine (tt_f rfl).trans ?_
  refine (tt_il rfl).trans ?_
  refine (tt_f rfl).trans ?_
  exact tt_f1 (p := fun x => x = 0) inferInstance rfl
theorem B123_61 {l1 : Int32} {l2 : Int32} {l3 : Int32} {l4 : Int32} {l5 : Int32} (hi1 : zin l3 193 = true) : zd S 123 61 [some (.ref 76), some (.int l1), some (.int l2), some (.int l3), some (.int l4), some (.int l5), none] [] I J k = if (I 99 l3.toNatClampNeg) = 0 then zd S 123 222 [some (.ref 76), some (.int l1), some (.int l2), some (.int l3), some (.int l4), some (.int l5), none] [] I J k else zd S 123 70 [some (.ref 76), some (.int l1), some (.int l2), some (.int l3), some (.int l4), some (.int l5), none] [] I J k := by
  refine (tt_f rfl).trans ?_
  refine (tt_al rfl).trans ?_
  refine (tt_f rfl).trans ?_
  refine (tt_gr rfl rfl).trans ?_
  refine (tt_f rfl).trans ?_
  refine (tt_il rfl).trans ?_
  refine (tt_f rfl).trans ?_
  refine (tt_ga rfl rfl hi1).trans ?_
  refine (tt_f rfl).trans ?_
  exact tt_f1 (p := fun x => x = 0) inferInstance rfl
theorem B123_70 {l1 : Int32} {l2 : Int32} {l3 : Int32} {l4 : Int32} {l5 : Int32} (hi1 : zin (((192 * l1) + l5) - 1) 3840 = true) (hi2 : zin ((I 89 (((192 * l1) + l5) - 1).toNatClampNeg) - 97) 26 = true) : zd S 123 70 [some (.ref 76), some (.int l1), some (.int l2), some (.int l3), some (.int l4), some (.int l5), none] [] I J k = if l5 ≤ (l3 + 1) then zd S 123 120 [some (.ref 76), some (.int l1), some (.int l2), some (.int l3), some (.int l4), some (.int l5), none] [.int (l4 + (I 78 ((I 89 (((192 * l1) + l5) - 1).toNatClampNeg) - 97).toNatClampNeg))] I J k else zd S 123 104 [some (.ref 76), some (.int l1), some (.int l2), some (.int l3), some (.int l4), some (.int l5), none] [.int (l4 + (I 78 ((I 89 (((192 * l1) + l5) - 1).toNatClampNeg) - 97).toNatClampNeg))] I J k := by
  refine (tt_fk rfl rfl).trans ?_
  refine (tt_il rfl).trans ?_
  refine (tt_f rfl).trans ?_
  refine (tt_al rfl).trans ?_
  refine (tt_f rfl).trans ?_
  refine (tt_gr rfl rfl).trans ?_
  refine (tt_f rfl).trans ?_
  refine (tt_al rfl).trans ?_
  refine (tt_f rfl).trans ?_
  refine (tt_gr rfl rfl).trans ?_
  refine (tt_f rfl).trans ?_
  refine tt_c.trans ?_
  refine (tt_f rfl).trans ?_
  refine (tt_il rfl).trans ?_
  refine (tt_f rfl).trans ?_
  refine tt_bi.trans ?_
  refine (tt_f rfl).trans ?_
  refine (tt_il rfl).trans ?_
  refine (tt_f rfl).trans ?_
  refine tt_bi.trans ?_
  refine (tt_f rfl).trans ?_
  refine tt_c.trans ?_
  refine (tt_f rfl).trans ?_
  refine tt_bi.trans ?_
  refine (tt_f rfl).trans ?_
  refine (tt_ga rfl rfl hi1).trans ?_
  refine (tt_f rfl).trans ?_
  refine tt_c.trans ?_
  refine (tt_f rfl).trans ?_
  refine tt_bi.trans ?_
  refine (tt_f rfl).trans ?_
  refine (tt_ga rfl rfl hi2).trans ?_
  refine (tt_f rfl).trans ?_
  refine tt_bi.trans ?_
  refine (tt_f rfl).trans ?_
  refine (tt_il rfl).trans ?_
  refine (tt_f rfl).trans ?_
  refine (tt_il rfl).trans ?_
  refine (tt_f rfl).trans ?_
  refine tt_c.trans ?_
  refine (tt_f rfl).trans ?_
  refine tt_bi.trans ?_
  refine (tt_f rfl).trans ?_
  exact tt_f2 (p := fun x y => x ≤ y) inferInstance rfl
theorem B123_104 {l1 : Int32} {l2 : Int32} {l3 : Int32} {l4 : Int32} {l5 : Int32} {t0 : Int32} (hi1 : zin (l5 - 1) 193 = true) : zd S 123 104 [some (.ref 76), some (.int l1), some (.int l2), some (.int l3), some (.int l4), some (.int l5), none] [.int t0] I J k = if (I 100 (l5 - 1).toNatClampNeg) = 0 then zd S 123 120 [some (.ref 76), some (.int l1), some (.int l2), some (.int l3), some (.int l4), some (.int l5), none] [.int t0] I J k else zd S 123 116 [some (.ref 76), some (.int l1), some (.int l2), some (.int l3), some (.int l4), some (.int l5), none] [.int t0] I J k := by
  refine (tt_f rfl).trans ?_
  refine (tt_al rfl).trans ?_
  refine (tt_f rfl).trans ?_
  refine (tt_gr rfl rfl).trans ?_
  refine (tt_f rfl).trans ?_
  refine (tt_il rfl).trans ?_
  refine (tt_f rfl).trans ?_
  refine tt_c.trans ?_
  refine (tt_f rfl).trans ?_
  refine tt_bi.trans ?_
  refine (tt_f rfl).trans ?_
  refine (tt_ga rfl rfl hi1).trans ?_
  refine (tt_f rfl).trans ?_
  exact tt_f1 (p := fun x => x = 0) inferInstance rfl
theorem B123_116 {l1 : Int32} {l2 : Int32} {l3 : Int32} {l4 : Int32} {l5 : Int32} {t0 : Int32} (hi1 : zin l5 193 = true) : zd S 123 116 [some (.ref 76), some (.int l1), some (.int l2), some (.int l3), some (.int l4), some (.int l5), none] [.int t0] I J k = if (I 99 l5.toNatClampNeg) = 0 then zd S 123 156 [some (.ref 76), some (.int l1), some (.int l2), some (.int l3), some (.int (t0 + 3)), some (.int l5), none] [] I J k else zd S 123 134 [some (.ref 76), some (.int l1), some (.int l2), some (.int l3), some (.int (t0 + 3)), some (.int l5), none] [] I J k := by
  refine (tt_f rfl).trans ?_
  refine tt_c.trans ?_
  refine (tt_f rfl).trans ?_
  refine tt_go.trans ?_
  refine (tt_fk rfl rfl).trans ?_
  refine tt_bi.trans ?_
  refine (tt_f rfl).trans ?_
  refine (tt_is rfl rfl).trans ?_
  refine (tt_f rfl).trans ?_
  refine (tt_al rfl).trans ?_
  refine (tt_f rfl).trans ?_
  refine (tt_gr rfl rfl).trans ?_
  refine (tt_f rfl).trans ?_
  refine (tt_il rfl).trans ?_
  refine (tt_f rfl).trans ?_
  refine (tt_ga rfl rfl hi1).trans ?_
  refine (tt_f rfl).trans ?_
  exact tt_f1 (p := fun x => x = 0) inferInstance rfl
theorem B123_120 {l1 : Int32} {l2 : Int32} {l3 : Int32} {l4 : Int32} {l5 : Int32} {t0 : Int32} (hi1 : zin l5 193 = true) : zd S 123 120 [some (.ref 76), some (.int l1), some (.int l2), some (.int l3), some (.int l4), some (.int l5), none] [.int t0] I J k = if (I 99 l5.toNatClampNeg) = 0 then zd S 123 156 [some (.ref 76), some (.int l1), some (.int l2), some (.int l3), some (.int (t0 + 0)), some (.int l5), none] [] I J k else zd S 123 134 [some (.ref 76), some (.int l1), some (.int l2), some (.int l3), some (.int (t0 + 0)), some (.int l5), none] [] I J k := by
  refine (tt_fk rfl rfl).trans ?_
  refine tt_c.trans ?_
  refine (tt_fk rfl rfl).trans ?_
  refine tt_bi.trans ?_
  refine (tt_f rfl).trans ?_
  refine (tt_is rfl rfl).trans ?_
  refine (tt_f rfl).trans ?_
  refine (tt_al rfl).trans ?_
  refine (tt_f rfl).trans ?_
  refine (tt_gr rfl rfl).trans ?_
  refine (tt_f rfl).trans ?_
  refine (tt_il rfl).trans ?_
  refine (tt_f rfl).trans ?_
  refine (tt_ga rfl rfl hi1).trans ?_
  refine (tt_f rfl).trans ?_
  exact tt_f1 (p := fun x => x = 0) inferInstance rfl
theorem B123_134 {l1 : Int32} {l2 : Int32} {l3 : Int32} {l4 : Int32} {l5 : Int32} (hi1 : zin l5 193 = true) : zd S 123 134 [some (.ref 76), some (.int l1), some (.int l2), some (.int l3), some (.int l4), some (.int l5), none] [] I J k = if (I 101 l5.toNatClampNeg) < 0 then zd S 123 156 [some (.ref 76), some (.int l1), some (.int l2), some (.int l3), some (.int l4), some (.int l5), none] [] I J k else zd S 123 144 [some (.ref 76), some (.int l1), some (.int l2), some (.int l3), some (.int l4), some (.int l5), none] [] I J k := by
  refine (tt_f rfl).trans ?_
  refine (tt_al rfl).trans ?_
  refine (tt_f rfl).trans ?_
  refine (tt_gr rfl rfl).trans ?_
  refine (tt_f rfl).trans ?_
  refine (tt_il rfl).trans ?_
  refine (tt_f rfl).trans ?_
  refine (tt_ga rfl rfl hi1).trans ?_
  refine (tt_f rfl).trans ?_
  exact tt_f1 (p := fun x => x < 0) inferInstance rfl
theorem B123_144 {l1 : Int32} {l2 : Int32} {l3 : Int32} {l4 : Int32} {l5 : Int32} {v1 : Int32} {I2 : zI} {J3 : zJ} (hb : Nat.ble k.1 (mBu 123).1 = true ∧ Nat.ble k.2 (mBu 123).2 = true) (hq : zq S 122 [.ref 76, .int l4, .int l5, .int l2] I J (some (.int v1)) I2 J3) : zd S 123 144 [some (.ref 76), some (.int l1), some (.int l2), some (.int l3), some (.int l4), some (.int l5), none] [] I J k = zd S 123 153 [some (.ref 76), some (.int l1), some (.int l2), some (.int l3), some (.int l4), some (.int l5), none] [.int v1] I2 J3 k := by
  refine (tt_f rfl).trans ?_
  refine (tt_al rfl).trans ?_
  refine (tt_f rfl).trans ?_
  refine (tt_il rfl).trans ?_
  refine (tt_f rfl).trans ?_
  refine (tt_il rfl).trans ?_
  refine (tt_f rfl).trans ?_
  refine (tt_il rfl).trans ?_
  exact tt_cv (As := [.int l4, .int l5, .int l2]) rfl hb.1 hb.2 rfl rfl rfl rfl rfl hq
theorem B123_153 {l1 : Int32} {l2 : Int32} {l3 : Int32} {l4 : Int32} {l5 : Int32} {t0 : Int32}  : zd S 123 153 [some (.ref 76), some (.int l1), some (.int l2), some (.int l3), some (.int l4), some (.int l5), none] [.int t0] I J k = if t0 < 0 then zd S 123 216 [some (.ref 76), some (.int l1), some (.int l2), some (.int l3), some (.int l4), some (.int l5), some (.int t0)] [] I J k else zd S 123 164 [some (.ref 76), some (.int l1), some (.int l2), some (.int l3), some (.int l4), some (.int l5), some (.int t0)] [] I J k := by
  refine (tt_f rfl).trans ?_
  refine tt_go.trans ?_
  refine (tt_fk rfl rfl).trans ?_
  refine (tt_is rfl rfl).trans ?_
  refine (tt_f rfl).trans ?_
  refine (tt_il rfl).trans ?_
  refine (tt_f rfl).trans ?_
  exact tt_f1 (p := fun x => x < 0) inferInstance rfl
theorem B123_156 {l1 : Int32} {l2 : Int32} {l3 : Int32} {l4 : Int32} {l5 : Int32}  : zd S 123 156 [some (.ref 76), some (.int l1), some (.int l2), some (.int l3), some (.int l4), some (.int l5), none] [] I J k = if (-1) < 0 then zd S 123 216 [some (.ref 76), some (.int l1), some (.int l2), some (.int l3), some (.int l4), some (.int l5), some (.int (-1))] [] I J k else zd S 123 164 [some (.ref 76), some (.int l1), some (.int l2), some (.int l3), some (.int l4), some (.int l5), some (.int (-1))] [] I J k := by
  refine (tt_fk rfl rfl).trans ?_
  refine tt_c.trans ?_
  refine (tt_fk rfl rfl).trans ?_
  refine (tt_is rfl rfl).trans ?_
  refine (tt_f rfl).trans ?_
  refine (tt_il rfl).trans ?_
  refine (tt_f rfl).trans ?_
  exact tt_f1 (p := fun x => x < 0) inferInstance rfl
theorem B123_164 {l1 : Int32} {l2 : Int32} {l3 : Int32} {l4 : Int32} {l5 : Int32} {l6 : Int32} (hi1 : zin l3 193 = true) : zd S 123 164 [some (.ref 76), some (.int l1), some (.int l2), some (.int l3), some (.int l4), some (.int l5), some (.int l6)] [] I J k = if (I 101 l3.toNatClampNeg) < 0 then zd S 123 192 [some (.ref 76), some (.int l1), some (.int l2), some (.int l3), some (.int l4), some (.int l5), some (.int l6)] [] I J k else zd S 123 173 [some (.ref 76), some (.int l1), some (.int l2), some (.int l3), some (.int l4), some (.int l5), some (.int l6)] [] I J k := by
  refine (tt_f rfl).trans ?_
  refine (tt_al rfl).trans ?_
  refine (tt_f rfl).trans ?_
  refine (tt_gr rfl rfl).trans ?_
  refine (tt_f rfl).trans ?_
  refine (tt_il rfl).trans ?_
  refine (tt_f rfl).trans ?_
  refine (tt_ga rfl rfl hi1).trans ?_
  refine (tt_f rfl).trans ?_
  exact tt_f1 (p := fun x => x < 0) inferInstance rfl
theorem B123_173 {l1 : Int32} {l2 : Int32} {l3 : Int32} {l4 : Int32} {l5 : Int32} {l6 : Int32} (hi1 : zin l5 193 = true) (hi2 : zin l3 193 = true) : zd S 123 173 [some (.ref 76), some (.int l1), some (.int l2), some (.int l3), some (.int l4), some (.int l5), some (.int l6)] [] I J k = if (I 101 l3.toNatClampNeg) < (l6 + (I 101 l5.toNatClampNeg)) then zd S 123 216 [some (.ref 76), some (.int l1), some (.int l2), some (.int l3), some (.int l4), some (.int l5), some (.int l6)] [] I J k else zd S 123 192 [some (.ref 76), some (.int l1), some (.int l2), some (.int l3), some (.int l4), some (.int l5), some (.int l6)] [] I J k := by
  refine (tt_f rfl).trans ?_
  refine (tt_il rfl).trans ?_
  refine (tt_f rfl).trans ?_
  refine (tt_al rfl).trans ?_
  refine (tt_f rfl).trans ?_
  refine (tt_gr rfl rfl).trans ?_
  refine (tt_f rfl).trans ?_
  refine (tt_il rfl).trans ?_
  refine (tt_f rfl).trans ?_
  refine (tt_ga rfl rfl hi1).trans ?_
  refine (tt_f rfl).trans ?_
  refine tt_bi.trans ?_
  refine (tt_f rfl).trans ?_
  refine (tt_al rfl).trans ?_
  refine (tt_f rfl).trans ?_
  refine (tt_gr rfl rfl).trans ?_
  refine (tt_f rfl).trans ?_
  refine (tt_il rfl).trans ?_
  refine (tt_f rfl).trans ?_
  refine (tt_ga rfl rfl hi2).trans ?_
  refine (tt_f rfl).trans ?_
  exact tt_f2 (p := fun x y => y < x) inferInstance rfl
theorem B123_192 {l1 : Int32} {l2 : Int32} {l3 : Int32} {l4 : Int32} {l5 : Int32} {l6 : Int32} (hi1 : zin l5 193 = true) (hi2 : zin l3 193 = true) : zd S 123 192 [some (.ref 76), some (.int l1), some (.int l2), some (.int l3), some (.int l4), some (.int l5), some (.int l6)] [] I J k = zd S 123 208 [some (.ref 76), some (.int l1), some (.int l2), some (.int l3), some (.int l4), some (.int l5), some (.int l6)] [] (u2 I 101 l3.toNatClampNeg (l6 + (I 101 l5.toNatClampNeg))) J k := by
  refine (tt_fk rfl rfl).trans ?_
  refine (tt_al rfl).trans ?_
  refine (tt_f rfl).trans ?_
  refine (tt_gr rfl rfl).trans ?_
  refine (tt_f rfl).trans ?_
  refine (tt_il rfl).trans ?_
  refine (tt_f rfl).trans ?_
  refine (tt_il rfl).trans ?_
  refine (tt_f rfl).trans ?_
  refine (tt_al rfl).trans ?_
  refine (tt_f rfl).trans ?_
  refine (tt_gr rfl rfl).trans ?_
  refine (tt_f rfl).trans ?_
  refine (tt_il rfl).trans ?_
  refine (tt_f rfl).trans ?_
  refine (tt_ga rfl rfl hi1).trans ?_
  refine (tt_f rfl).trans ?_
  refine tt_bi.trans ?_
  refine (tt_f rfl).trans ?_
  exact tt_pa rfl rfl hi2
theorem B123_208 {l1 : Int32} {l2 : Int32} {l3 : Int32} {l4 : Int32} {l5 : Int32} {l6 : Int32} (hi1 : zin l3 193 = true) : zd S 123 208 [some (.ref 76), some (.int l1), some (.int l2), some (.int l3), some (.int l4), some (.int l5), some (.int l6)] [] I J k = zd S 123 216 [some (.ref 76), some (.int l1), some (.int l2), some (.int l3), some (.int l4), some (.int l5), some (.int l6)] [] (u2 I 102 l3.toNatClampNeg l5) J k := by
  refine (tt_f rfl).trans ?_
  refine (tt_al rfl).trans ?_
  refine (tt_f rfl).trans ?_
  refine (tt_gr rfl rfl).trans ?_
  refine (tt_f rfl).trans ?_
  refine (tt_il rfl).trans ?_
  refine (tt_f rfl).trans ?_
  refine (tt_il rfl).trans ?_
  refine (tt_f rfl).trans ?_
  exact tt_pa rfl rfl hi1
theorem B123_216 {l1 : Int32} {l2 : Int32} {l3 : Int32} {l4 : Int32} {l5 : Int32} {l6 : Int32}  : zd S 123 216 [some (.ref 76), some (.int l1), some (.int l2), some (.int l3), some (.int l4), some (.int l5), some (.int l6)] [] I J k = zd S 123 42 [some (.ref 76), some (.int l1), some (.int l2), some (.int l3), some (.int l4), some (.int (l5 + 1)), none] [] I J k := by
  refine (tt_fk rfl rfl).trans ?_
  refine (tt_in rfl rfl).trans ?_
  refine (tt_f rfl).trans ?_
  refine tt_go.trans ?_
  rfl
theorem B123_222 {l1 : Int32} {l2 : Int32} {l3 : Int32} {l4 : Int32} {l5 : Int32}  : zd S 123 222 [some (.ref 76), some (.int l1), some (.int l2), some (.int l3), some (.int l4), some (.int l5), none] [] I J k = zd S 123 23 [some (.ref 76), some (.int l1), some (.int l2), some (.int (l3 + (-1))), none, none, none] [] I J k := by
  refine (tt_fk rfl rfl).trans ?_
  refine (tt_in rfl rfl).trans ?_
  refine (tt_f rfl).trans ?_
  refine tt_go.trans ?_
  rfl
theorem B123_228 {l1 : Int32} {l2 : Int32} {l3 : Int32}  : zd S 123 228 [some (.ref 76), some (.int l1), some (.int l2), some (.int l3), none, none, none] [] I J k = some (none, mk I J, k) := by
  exact tt_rv rfl
/-! 124: EditionGridModel.layLines -/
theorem B124_0 {l1 : Int32} (hi1 : zin l1 4 = true) : zd S 124 0 [some (.ref 76), some (.int l1), none, none, none, none] [] I J k = zd S 124 7 [some (.ref 76), some (.int l1), none, none, none, none] [] (u2 I 94 l1.toNatClampNeg 0) J k := by
  refine (tt_f rfl).trans ?_
  refine (tt_al rfl).trans ?_
  refine (tt_f rfl).trans ?_
  refine (tt_gr rfl rfl).trans ?_
  refine (tt_f rfl).trans ?_
  refine (tt_il rfl).trans ?_
  refine (tt_f rfl).trans ?_
  refine tt_c.trans ?_
  refine (tt_f rfl).trans ?_
  exact tt_pa rfl rfl hi1
theorem B124_7 {l1 : Int32} (hi1 : zin l1 4 = true) : zd S 124 7 [some (.ref 76), some (.int l1), none, none, none, none] [] I J k = zd S 124 14 [some (.ref 76), some (.int l1), none, none, none, none] [] (u2 I 93 l1.toNatClampNeg 0) J k := by
  refine (tt_f rfl).trans ?_
  refine (tt_al rfl).trans ?_
  refine (tt_f rfl).trans ?_
  refine (tt_gr rfl rfl).trans ?_
  refine (tt_f rfl).trans ?_
  refine (tt_il rfl).trans ?_
  refine (tt_f rfl).trans ?_
  refine tt_c.trans ?_
  refine (tt_f rfl).trans ?_
  exact tt_pa rfl rfl hi1
theorem B124_14 {l1 : Int32}  : zd S 124 14 [some (.ref 76), some (.int l1), none, none, none, none] [] I J k = zd S 124 16 [some (.ref 76), some (.int l1), some (.int 0), none, none, none] [] I J k := by
  refine (tt_f rfl).trans ?_
  refine tt_c.trans ?_
  refine (tt_f rfl).trans ?_
  refine (tt_is rfl rfl).trans ?_
  rfl
theorem B124_16 {l1 : Int32} {l2 : Int32} {o3 : Option Value} {o4 : Option Value} (hi1 : zin l1 4 = true) : zd S 124 16 [some (.ref 76), some (.int l1), some (.int l2), o3, o4, none] [] I J k = if (I 88 l1.toNatClampNeg) ≤ l2 then zd S 124 189 [some (.ref 76), some (.int l1), some (.int l2), none, none, none] [] I J k else zd S 124 26 [some (.ref 76), some (.int l1), some (.int l2), none, none, none] [] I J k := by
  refine (tt_fk rfl rfl).trans ?_
  refine (tt_il rfl).trans ?_
  refine (tt_f rfl).trans ?_
  refine (tt_al rfl).trans ?_
  refine (tt_f rfl).trans ?_
  refine (tt_gr rfl rfl).trans ?_
  refine (tt_f rfl).trans ?_
  refine (tt_il rfl).trans ?_
  refine (tt_f rfl).trans ?_
  refine (tt_ga rfl rfl hi1).trans ?_
  refine (tt_f rfl).trans ?_
  exact tt_f2 (p := fun x y => y ≤ x) inferInstance rfl
theorem B124_26 {l1 : Int32} {l2 : Int32} {I1 : zI} {J2 : zJ} (hb : Nat.ble k.1 (mBu 124).1 = true ∧ Nat.ble k.2 (mBu 124).2 = true) (hq : zq S 123 [.ref 76, .int ((4 * l1) + l2)] I J none I1 J2) : zd S 124 26 [some (.ref 76), some (.int l1), some (.int l2), none, none, none] [] I J k = zd S 124 37 [some (.ref 76), some (.int l1), some (.int l2), some (.int ((4 * l1) + l2)), none, none] [] I1 J2 k := by
  refine (tt_f rfl).trans ?_
  refine tt_c.trans ?_
  refine (tt_f rfl).trans ?_
  refine (tt_il rfl).trans ?_
  refine (tt_f rfl).trans ?_
  refine tt_bi.trans ?_
  refine (tt_f rfl).trans ?_
  refine (tt_il rfl).trans ?_
  refine (tt_f rfl).trans ?_
  refine tt_bi.trans ?_
  refine (tt_f rfl).trans ?_
  refine (tt_is rfl rfl).trans ?_
  refine (tt_f rfl).trans ?_
  refine (tt_al rfl).trans ?_
  refine (tt_f rfl).trans ?_
  refine (tt_il rfl).trans ?_
  exact tt_cv (As := [.int ((4 * l1) + l2)]) rfl hb.1 hb.2 rfl rfl rfl rfl rfl hq
theorem B124_37 {l1 : Int32} {l2 : Int32} {l3 : Int32} (hi1 : zin 0 193 = true) (hi2 : zin l3 16 = true) : zd S 124 37 [some (.ref 76), some (.int l1), some (.int l2), some (.int l3), none, none] [] I J k = zd S 124 49 [some (.ref 76), some (.int l1), some (.int l2), some (.int l3), none, none] [] (u2 I 98 l3.toNatClampNeg (I 101 (0 : Int32).toNatClampNeg)) J k := by
  refine (tt_f rfl).trans ?_
  refine (tt_al rfl).trans ?_
  refine (tt_f rfl).trans ?_
  refine (tt_gr rfl rfl).trans ?_
  refine (tt_f rfl).trans ?_
  refine (tt_il rfl).trans ?_
  refine (tt_f rfl).trans ?_
  refine (tt_al rfl).trans ?_
  refine (tt_f rfl).trans ?_
  refine (tt_gr rfl rfl).trans ?_
  refine (tt_f rfl).trans ?_
  refine tt_c.trans ?_
  refine (tt_f rfl).trans ?_
  refine (tt_ga rfl rfl hi1).trans ?_
  refine (tt_f rfl).trans ?_
  exact tt_pa rfl rfl hi2
theorem B124_49 {l1 : Int32} {l2 : Int32} {l3 : Int32} (hi1 : zin 0 193 = true) : zd S 124 49 [some (.ref 76), some (.int l1), some (.int l2), some (.int l3), none, none] [] I J k = if 0 ≤ (I 101 (0 : Int32).toNatClampNeg) then zd S 124 67 [some (.ref 76), some (.int l1), some (.int l2), some (.int l3), none, none] [.int l1, .ref 93] I J k else zd S 124 63 [some (.ref 76), some (.int l1), some (.int l2), some (.int l3), none, none] [.int l1, .ref 93] I J k := by
  refine (tt_f rfl).trans ?_
  refine (tt_al rfl).trans ?_
  refine (tt_f rfl).trans ?_
  refine (tt_gr rfl rfl).trans ?_
  refine (tt_f rfl).trans ?_
  refine (tt_il rfl).trans ?_
  refine (tt_f rfl).trans ?_
  refine (tt_al rfl).trans ?_
  refine (tt_f rfl).trans ?_
  refine (tt_gr rfl rfl).trans ?_
  refine (tt_f rfl).trans ?_
  refine tt_c.trans ?_
  refine (tt_f rfl).trans ?_
  refine (tt_ga rfl rfl hi1).trans ?_
  refine (tt_f rfl).trans ?_
  exact tt_f1 (p := fun x => 0 ≤ x) inferInstance rfl
theorem B124_63 {l1 : Int32} {l2 : Int32} {l3 : Int32} {t1 : Int32} (hi1 : zin t1 4 = true) : zd S 124 63 [some (.ref 76), some (.int l1), some (.int l2), some (.int l3), none, none] [.int t1, .ref 93] I J k = zd S 124 74 [some (.ref 76), some (.int l1), some (.int l2), some (.int l3), none, none] [] (u2 I 93 t1.toNatClampNeg 1) J k := by
  refine (tt_f rfl).trans ?_
  refine tt_c.trans ?_
  refine (tt_f rfl).trans ?_
  refine tt_go.trans ?_
  refine (tt_fk rfl rfl).trans ?_
  exact tt_pa rfl rfl hi1
theorem B124_67 {l1 : Int32} {l2 : Int32} {l3 : Int32} {t1 : Int32} (hi1 : zin l1 4 = true) (hi2 : zin t1 4 = true) : zd S 124 67 [some (.ref 76), some (.int l1), some (.int l2), some (.int l3), none, none] [.int t1, .ref 93] I J k = zd S 124 74 [some (.ref 76), some (.int l1), some (.int l2), some (.int l3), none, none] [] (u2 I 93 t1.toNatClampNeg (I 93 l1.toNatClampNeg)) J k := by
  refine (tt_f rfl).trans ?_
  refine (tt_al rfl).trans ?_
  refine (tt_f rfl).trans ?_
  refine (tt_gr rfl rfl).trans ?_
  refine (tt_f rfl).trans ?_
  refine (tt_il rfl).trans ?_
  refine (tt_f rfl).trans ?_
  refine (tt_ga rfl rfl hi1).trans ?_
  refine (tt_fk rfl rfl).trans ?_
  exact tt_pa rfl rfl hi2
theorem B124_74 {l1 : Int32} {l2 : Int32} {l3 : Int32} (hi1 : zin 0 193 = true) : zd S 124 74 [some (.ref 76), some (.int l1), some (.int l2), some (.int l3), none, none] [] I J k = if 0 ≤ (I 101 (0 : Int32).toNatClampNeg) then zd S 124 92 [some (.ref 76), some (.int l1), some (.int l2), some (.int l3), none, none] [] I J k else zd S 124 83 [some (.ref 76), some (.int l1), some (.int l2), some (.int l3), none, none] [] I J k := by
  refine (tt_f rfl).trans ?_
  refine (tt_al rfl).trans ?_
  refine (tt_f rfl).trans ?_
  refine (tt_gr rfl rfl).trans ?_
  refine (tt_f rfl).trans ?_
  refine tt_c.trans ?_
  refine (tt_f rfl).trans ?_
  refine (tt_ga rfl rfl hi1).trans ?_
  refine (tt_f rfl).trans ?_
  exact tt_f1 (p := fun x => 0 ≤ x) inferInstance rfl
theorem B124_83 {l1 : Int32} {l2 : Int32} {l3 : Int32} (hi1 : zin l3 20 = true) : zd S 124 83 [some (.ref 76), some (.int l1), some (.int l2), some (.int l3), none, none] [] I J k = zd S 124 95 [some (.ref 76), some (.int l1), some (.int l2), some (.int l3), some (.int (I 92 l3.toNatClampNeg)), none] [] I J k := by
  refine (tt_f rfl).trans ?_
  refine (tt_al rfl).trans ?_
  refine (tt_f rfl).trans ?_
  refine (tt_gr rfl rfl).trans ?_
  refine (tt_f rfl).trans ?_
  refine (tt_il rfl).trans ?_
  refine (tt_f rfl).trans ?_
  refine (tt_ga rfl rfl hi1).trans ?_
  refine (tt_f rfl).trans ?_
  refine tt_go.trans ?_
  refine (tt_fk rfl rfl).trans ?_
  refine (tt_is rfl rfl).trans ?_
  rfl
theorem B124_92 {l1 : Int32} {l2 : Int32} {l3 : Int32}  : zd S 124 92 [some (.ref 76), some (.int l1), some (.int l2), some (.int l3), none, none] [] I J k = zd S 124 95 [some (.ref 76), some (.int l1), some (.int l2), some (.int l3), some (.int 0), none] [] I J k := by
  refine (tt_f rfl).trans ?_
  refine tt_c.trans ?_
  refine (tt_fk rfl rfl).trans ?_
  refine (tt_is rfl rfl).trans ?_
  rfl
theorem B124_95 {l1 : Int32} {l2 : Int32} {l3 : Int32} {l4 : Int32} (hi1 : zin l3 20 = true) : zd S 124 95 [some (.ref 76), some (.int l1), some (.int l2), some (.int l3), some (.int l4), none] [] I J k = if (I 92 l3.toNatClampNeg) ≤ l4 then zd S 124 183 [some (.ref 76), some (.int l1), some (.int l2), some (.int l3), some (.int l4), none] [] I J k else zd S 124 106 [some (.ref 76), some (.int l1), some (.int l2), some (.int l3), some (.int l4), none] [] I J k := by
  refine (tt_fk rfl rfl).trans ?_
  refine (tt_il rfl).trans ?_
  refine (tt_f rfl).trans ?_
  refine (tt_al rfl).trans ?_
  refine (tt_f rfl).trans ?_
  refine (tt_gr rfl rfl).trans ?_
  refine (tt_f rfl).trans ?_
  refine (tt_il rfl).trans ?_
  refine (tt_f rfl).trans ?_
  refine (tt_ga rfl rfl hi1).trans ?_
  refine (tt_f rfl).trans ?_
  exact tt_f2 (p := fun x y => y ≤ x) inferInstance rfl
theorem B124_106 {l1 : Int32} {l2 : Int32} {l3 : Int32} {l4 : Int32} (hi1 : zin l1 4 = true) : zd S 124 106 [some (.ref 76), some (.int l1), some (.int l2), some (.int l3), some (.int l4), none] [] I J k = if 41 ≤ (I 94 l1.toNatClampNeg) then zd S 124 161 [some (.ref 76), some (.int l1), some (.int l2), some (.int l3), some (.int l4), none] [] I J k else zd S 124 117 [some (.ref 76), some (.int l1), some (.int l2), some (.int l3), some (.int l4), none] [] I J k := by
  refine (tt_f rfl).trans ?_
  refine (tt_al rfl).trans ?_
  refine (tt_f rfl).trans ?_
  refine (tt_gr rfl rfl).trans ?_
  refine (tt_f rfl).trans ?_
  refine (tt_il rfl).trans ?_
  refine (tt_f rfl).trans ?_
  refine (tt_ga rfl rfl hi1).trans ?_
  refine (tt_f rfl).trans ?_
  refine tt_c.trans ?_
  refine (tt_f rfl).trans ?_
  exact tt_f2 (p := fun x y => y ≤ x) inferInstance rfl
theorem B124_117 {l1 : Int32} {l2 : Int32} {l3 : Int32} {l4 : Int32} (hi1 : zin l1 4 = true) (hi2 : zin ((41 * l1) + (I 94 l1.toNatClampNeg)) 164 = true) : zd S 124 117 [some (.ref 76), some (.int l1), some (.int l2), some (.int l3), some (.int l4), none] [] I J k = zd S 124 138 [some (.ref 76), some (.int l1), some (.int l2), some (.int l3), some (.int l4), some (.int ((41 * l1) + (I 94 l1.toNatClampNeg)))] [] (u2 I 95 ((41 * l1) + (I 94 l1.toNatClampNeg)).toNatClampNeg l3) J k := by
  refine (tt_f rfl).trans ?_
  refine tt_c.trans ?_
  refine (tt_f rfl).trans ?_
  refine (tt_il rfl).trans ?_
  refine (tt_f rfl).trans ?_
  refine tt_bi.trans ?_
  refine (tt_f rfl).trans ?_
  refine (tt_al rfl).trans ?_
  refine (tt_f rfl).trans ?_
  refine (tt_gr rfl rfl).trans ?_
  refine (tt_f rfl).trans ?_
  refine (tt_il rfl).trans ?_
  refine (tt_f rfl).trans ?_
  refine (tt_ga rfl rfl hi1).trans ?_
  refine (tt_f rfl).trans ?_
  refine tt_bi.trans ?_
  refine (tt_f rfl).trans ?_
  refine (tt_is rfl rfl).trans ?_
  refine (tt_f rfl).trans ?_
  refine (tt_al rfl).trans ?_
  refine (tt_f rfl).trans ?_
  refine (tt_gr rfl rfl).trans ?_
  refine (tt_f rfl).trans ?_
  refine (tt_il rfl).trans ?_
  refine (tt_f rfl).trans ?_
  refine (tt_il rfl).trans ?_
  refine (tt_f rfl).trans ?_
  exact tt_pa rfl rfl hi2
theorem B124_138 {l1 : Int32} {l2 : Int32} {l3 : Int32} {l4 : Int32} {l5 : Int32} (hi1 : zin l5 164 = true) : zd S 124 138 [some (.ref 76), some (.int l1), some (.int l2), some (.int l3), some (.int l4), some (.int l5)] [] I J k = zd S 124 147 [some (.ref 76), some (.int l1), some (.int l2), some (.int l3), some (.int l4), some (.int l5)] [] (u2 I 96 l5.toNatClampNeg l4) J k := by
  refine (tt_f rfl).trans ?_
  refine (tt_al rfl).trans ?_
  refine (tt_f rfl).trans ?_
  refine (tt_gr rfl rfl).trans ?_
  refine (tt_f rfl).trans ?_
  refine (tt_il rfl).trans ?_
  refine (tt_f rfl).trans ?_
  refine (tt_il rfl).trans ?_
  refine (tt_f rfl).trans ?_
  exact tt_pa rfl rfl hi1
theorem B124_147 {l1 : Int32} {l2 : Int32} {l3 : Int32} {l4 : Int32} {l5 : Int32} (hi1 : zin l4 193 = true) (hi2 : zin l5 164 = true) : zd S 124 147 [some (.ref 76), some (.int l1), some (.int l2), some (.int l3), some (.int l4), some (.int l5)] [] I J k = zd S 124 161 [some (.ref 76), some (.int l1), some (.int l2), some (.int l3), some (.int l4), some (.int l5)] [] (u2 I 97 l5.toNatClampNeg (I 102 l4.toNatClampNeg)) J k := by
  refine (tt_f rfl).trans ?_
  refine (tt_al rfl).trans ?_
  refine (tt_f rfl).trans ?_
  refine (tt_gr rfl rfl).trans ?_
  refine (tt_f rfl).trans ?_
  refine (tt_il rfl).trans ?_
  refine (tt_f rfl).trans ?_
  refine (tt_al rfl).trans ?_
  refine (tt_f rfl).trans ?_
  refine (tt_gr rfl rfl).trans ?_
  refine (tt_f rfl).trans ?_
  refine (tt_il rfl).trans ?_
  refine (tt_f rfl).trans ?_
  refine (tt_ga rfl rfl hi1).trans ?_
  refine (tt_f rfl).trans ?_
  exact tt_pa rfl rfl hi2
theorem B124_161 {l1 : Int32} {l2 : Int32} {l3 : Int32} {l4 : Int32} {o5 : Option Value} (hi1 : zin l1 4 = true) (hi2 : zin l1 4 = true) : zd S 124 161 [some (.ref 76), some (.int l1), some (.int l2), some (.int l3), some (.int l4), o5] [] I J k = zd S 124 171 [some (.ref 76), some (.int l1), some (.int l2), some (.int l3), some (.int l4), none] [] (u2 I 94 l1.toNatClampNeg ((I 94 l1.toNatClampNeg) + 1)) J k := by
  refine (tt_fk rfl rfl).trans ?_
  refine (tt_al rfl).trans ?_
  refine (tt_f rfl).trans ?_
  refine (tt_gr rfl rfl).trans ?_
  refine (tt_f rfl).trans ?_
  refine (tt_il rfl).trans ?_
  refine (tt_f rfl).trans ?_
  refine (tt_d2 rfl rfl).trans ?_
  refine (tt_f rfl).trans ?_
  refine (tt_ga rfl rfl hi1).trans ?_
  refine (tt_f rfl).trans ?_
  refine tt_c.trans ?_
  refine (tt_f rfl).trans ?_
  refine tt_bi.trans ?_
  refine (tt_f rfl).trans ?_
  exact tt_pa rfl rfl hi2
theorem B124_171 {l1 : Int32} {l2 : Int32} {l3 : Int32} {l4 : Int32} (hi1 : zin l4 193 = true) : zd S 124 171 [some (.ref 76), some (.int l1), some (.int l2), some (.int l3), some (.int l4), none] [] I J k = zd S 124 95 [some (.ref 76), some (.int l1), some (.int l2), some (.int l3), some (.int (I 102 l4.toNatClampNeg)), none] [] I J k := by
  refine (tt_f rfl).trans ?_
  refine (tt_al rfl).trans ?_
  refine (tt_f rfl).trans ?_
  refine (tt_gr rfl rfl).trans ?_
  refine (tt_f rfl).trans ?_
  refine (tt_il rfl).trans ?_
  refine (tt_f rfl).trans ?_
  refine (tt_ga rfl rfl hi1).trans ?_
  refine (tt_f rfl).trans ?_
  refine (tt_is rfl rfl).trans ?_
  refine (tt_f rfl).trans ?_
  refine tt_go.trans ?_
  rfl
theorem B124_183 {l1 : Int32} {l2 : Int32} {l3 : Int32} {l4 : Int32}  : zd S 124 183 [some (.ref 76), some (.int l1), some (.int l2), some (.int l3), some (.int l4), none] [] I J k = zd S 124 16 [some (.ref 76), some (.int l1), some (.int (l2 + 1)), some (.int l3), some (.int l4), none] [] I J k := by
  refine (tt_f rfl).trans ?_
  refine (tt_in rfl rfl).trans ?_
  refine (tt_f rfl).trans ?_
  refine tt_go.trans ?_
  rfl
theorem B124_189 {l1 : Int32} {l2 : Int32} (hi1 : zin l1 4 = true) : zd S 124 189 [some (.ref 76), some (.int l1), some (.int l2), none, none, none] [] I J k = if ¬ (I 93 l1.toNatClampNeg) = 1 then zd S 124 208 [some (.ref 76), some (.int l1), some (.int l2), none, none, none] [.int l1, .ref 94] I J k else zd S 124 204 [some (.ref 76), some (.int l1), some (.int l2), none, none, none] [.int l1, .ref 94] I J k := by
  refine (tt_f rfl).trans ?_
  refine (tt_al rfl).trans ?_
  refine (tt_f rfl).trans ?_
  refine (tt_gr rfl rfl).trans ?_
  refine (tt_f rfl).trans ?_
  refine (tt_il rfl).trans ?_
  refine (tt_f rfl).trans ?_
  refine (tt_al rfl).trans ?_
  refine (tt_f rfl).trans ?_
  refine (tt_gr rfl rfl).trans ?_
  refine (tt_f rfl).trans ?_
  refine (tt_il rfl).trans ?_
  refine (tt_f rfl).trans ?_
  refine (tt_ga rfl rfl hi1).trans ?_
  refine (tt_f rfl).trans ?_
  refine tt_c.trans ?_
  refine (tt_f rfl).trans ?_
  exact tt_f2 (p := fun x y => ¬ x = y) inferInstance rfl
theorem B124_204 {l1 : Int32} {l2 : Int32} {t1 : Int32} (hi1 : zin t1 4 = true) : zd S 124 204 [some (.ref 76), some (.int l1), some (.int l2), none, none, none] [.int t1, .ref 94] I J k = zd S 124 215 [some (.ref 76), some (.int l1), none, none, none, none] [] (u2 I 94 t1.toNatClampNeg 0) J k := by
  refine (tt_f rfl).trans ?_
  refine tt_c.trans ?_
  refine (tt_f rfl).trans ?_
  refine tt_go.trans ?_
  refine (tt_fk rfl rfl).trans ?_
  exact tt_pa rfl rfl hi1
theorem B124_208 {l1 : Int32} {l2 : Int32} {t1 : Int32} (hi1 : zin l1 4 = true) (hi2 : zin t1 4 = true) : zd S 124 208 [some (.ref 76), some (.int l1), some (.int l2), none, none, none] [.int t1, .ref 94] I J k = zd S 124 215 [some (.ref 76), some (.int l1), none, none, none, none] [] (u2 I 94 t1.toNatClampNeg (I 94 l1.toNatClampNeg)) J k := by
  refine (tt_f rfl).trans ?_
  refine (tt_al rfl).trans ?_
  refine (tt_f rfl).trans ?_
  refine (tt_gr rfl rfl).trans ?_
  refine (tt_f rfl).trans ?_
  refine (tt_il rfl).trans ?_
  refine (tt_f rfl).trans ?_
  refine (tt_ga rfl rfl hi1).trans ?_
  refine (tt_fk rfl rfl).trans ?_
  exact tt_pa rfl rfl hi2
theorem B124_215 {l1 : Int32} (hi1 : zin l1 4 = true) : zd S 124 215 [some (.ref 76), some (.int l1), none, none, none, none] [] I J k = if ¬ (I 93 l1.toNatClampNeg) = 1 then zd S 124 234 [some (.ref 76), some (.int l1), none, none, none, none] [.int l1, .ref 93] I J k else zd S 124 230 [some (.ref 76), some (.int l1), none, none, none, none] [.int l1, .ref 93] I J k := by
  refine (tt_f rfl).trans ?_
  refine (tt_al rfl).trans ?_
  refine (tt_f rfl).trans ?_
  refine (tt_gr rfl rfl).trans ?_
  refine (tt_f rfl).trans ?_
  refine (tt_il rfl).trans ?_
  refine (tt_f rfl).trans ?_
  refine (tt_al rfl).trans ?_
  refine (tt_f rfl).trans ?_
  refine (tt_gr rfl rfl).trans ?_
  refine (tt_f rfl).trans ?_
  refine (tt_il rfl).trans ?_
  refine (tt_f rfl).trans ?_
  refine (tt_ga rfl rfl hi1).trans ?_
  refine (tt_f rfl).trans ?_
  refine tt_c.trans ?_
  refine (tt_f rfl).trans ?_
  exact tt_f2 (p := fun x y => ¬ x = y) inferInstance rfl
theorem B124_230 {l1 : Int32} {t1 : Int32} (hi1 : zin t1 4 = true) : zd S 124 230 [some (.ref 76), some (.int l1), none, none, none, none] [.int t1, .ref 93] I J k = zd S 124 260 [none, none, none, none, none, none] [] (u2 I 93 t1.toNatClampNeg 1) J k := by
  refine (tt_f rfl).trans ?_
  refine tt_c.trans ?_
  refine (tt_f rfl).trans ?_
  refine tt_go.trans ?_
  refine (tt_fk rfl rfl).trans ?_
  exact tt_pa rfl rfl hi1
theorem B124_234 {l1 : Int32} {t1 : Int32} (hi1 : zin l1 4 = true) : zd S 124 234 [some (.ref 76), some (.int l1), none, none, none, none] [.int t1, .ref 93] I J k = if (I 94 l1.toNatClampNeg) = 0 then zd S 124 254 [some (.ref 76), some (.int l1), none, none, none, none] [.int t1, .ref 93] I J k else zd S 124 243 [some (.ref 76), some (.int l1), none, none, none, none] [.int t1, .ref 93] I J k := by
  refine (tt_f rfl).trans ?_
  refine (tt_al rfl).trans ?_
  refine (tt_f rfl).trans ?_
  refine (tt_gr rfl rfl).trans ?_
  refine (tt_f rfl).trans ?_
  refine (tt_il rfl).trans ?_
  refine (tt_f rfl).trans ?_
  refine (tt_ga rfl rfl hi1).trans ?_
  refine (tt_f rfl).trans ?_
  exact tt_f1 (p := fun x => x = 0) inferInstance rfl
theorem B124_243 {l1 : Int32} {t1 : Int32} (hi1 : zin l1 4 = true) : zd S 124 243 [some (.ref 76), some (.int l1), none, none, none, none] [.int t1, .ref 93] I J k = if (I 94 l1.toNatClampNeg) ≤ 40 then zd S 124 258 [some (.ref 76), some (.int l1), none, none, none, none] [.int t1, .ref 93] I J k else zd S 124 254 [some (.ref 76), some (.int l1), none, none, none, none] [.int t1, .ref 93] I J k := by
  refine (tt_f rfl).trans ?_
  refine (tt_al rfl).trans ?_
  refine (tt_f rfl).trans ?_
  refine (tt_gr rfl rfl).trans ?_
  refine (tt_f rfl).trans ?_
  refine (tt_il rfl).trans ?_
  refine (tt_f rfl).trans ?_
  refine (tt_ga rfl rfl hi1).trans ?_
  refine (tt_f rfl).trans ?_
  refine tt_c.trans ?_
  refine (tt_f rfl).trans ?_
  exact tt_f2 (p := fun x y => x ≤ y) inferInstance rfl
theorem B124_254 {l1 : Int32} {t1 : Int32} (hi1 : zin t1 4 = true) : zd S 124 254 [some (.ref 76), some (.int l1), none, none, none, none] [.int t1, .ref 93] I J k = zd S 124 260 [none, none, none, none, none, none] [] (u2 I 93 t1.toNatClampNeg 2) J k := by
  refine (tt_fk rfl rfl).trans ?_
  refine tt_c.trans ?_
  refine (tt_f rfl).trans ?_
  refine tt_go.trans ?_
  refine (tt_fk rfl rfl).trans ?_
  exact tt_pa rfl rfl hi1
theorem B124_258 {l1 : Int32} {t1 : Int32} (hi1 : zin t1 4 = true) : zd S 124 258 [some (.ref 76), some (.int l1), none, none, none, none] [.int t1, .ref 93] I J k = zd S 124 260 [none, none, none, none, none, none] [] (u2 I 93 t1.toNatClampNeg 0) J k := by
  refine (tt_f rfl).trans ?_
  refine tt_c.trans ?_
  refine (tt_fk rfl rfl).trans ?_
  exact tt_pa rfl rfl hi1
theorem B124_260   : zd S 124 260 [none, none, none, none, none, none] [] I J k = some (none, mk I J, k) := by
  exact tt_rv rfl
/-! 125: EditionGridModel.isBad -/
theorem B125_0 {l1 : Int32} {l2 : Int32} (hi1 : zin (((41 * l1) + l2) - 1) 164 = true) (hi2 : zin ((((41 * l1) + l2) - 1) + 1) 164 = true) : zd S 125 0 [some (.ref 76), some (.int l1), some (.int l2), none, none, none] [] I J k = if ¬ (I 95 (((41 * l1) + l2) - 1).toNatClampNeg) = (I 95 ((((41 * l1) + l2) - 1) + 1).toNatClampNeg) then zd S 125 34 [some (.ref 76), some (.int l1), some (.int l2), some (.int (((41 * l1) + l2) - 1)), some (.int ((((41 * l1) + l2) - 1) + 1)), none] [] I J k else zd S 125 30 [some (.ref 76), some (.int l1), some (.int l2), some (.int (((41 * l1) + l2) - 1)), some (.int ((((41 * l1) + l2) - 1) + 1)), none] [] I J k := by
  refine (tt_f rfl).trans ?_
  refine tt_c.trans ?_
  refine (tt_f rfl).trans ?_
  refine (tt_il rfl).trans ?_
  refine (tt_f rfl).trans ?_
  refine tt_bi.trans ?_
  refine (tt_f rfl).trans ?_
  refine (tt_il rfl).trans ?_
  refine (tt_f rfl).trans ?_
  refine tt_bi.trans ?_
  refine (tt_f rfl).trans ?_
  refine tt_c.trans ?_
  refine (tt_f rfl).trans ?_
  refine tt_bi.trans ?_
  refine (tt_f rfl).trans ?_
  refine (tt_is rfl rfl).trans ?_
  refine (tt_f rfl).trans ?_
  refine (tt_il rfl).trans ?_
  refine (tt_f rfl).trans ?_
  refine tt_c.trans ?_
  refine (tt_f rfl).trans ?_
  refine tt_bi.trans ?_
  refine (tt_f rfl).trans ?_
  refine (tt_is rfl rfl).trans ?_
  refine (tt_f rfl).trans ?_
  refine (tt_al rfl).trans ?_
  refine (tt_f rfl).trans ?_
  refine (tt_gr rfl rfl).trans ?_
  refine (tt_f rfl).trans ?_
  refine (tt_il rfl).trans ?_
  refine (tt_f rfl).trans ?_
  refine (tt_ga rfl rfl hi1).trans ?_
  refine (tt_f rfl).trans ?_
  refine (tt_al rfl).trans ?_
  refine (tt_f rfl).trans ?_
  refine (tt_gr rfl rfl).trans ?_
  refine (tt_f rfl).trans ?_
  refine (tt_il rfl).trans ?_
  refine (tt_f rfl).trans ?_
  refine (tt_ga rfl rfl hi2).trans ?_
  refine (tt_f rfl).trans ?_
  exact tt_f2 (p := fun x y => ¬ x = y) inferInstance rfl
theorem B125_30 {l1 : Int32} {l2 : Int32} {l3 : Int32} {l4 : Int32}  : zd S 125 30 [some (.ref 76), some (.int l1), some (.int l2), some (.int l3), some (.int l4), none] [] I J k = if 1 = 0 then zd S 125 77 [some (.ref 76), none, none, some (.int l3), some (.int l4), some (.int 1)] [] I J k else zd S 125 42 [some (.ref 76), none, none, some (.int l3), some (.int l4), some (.int 1)] [] I J k := by
  refine (tt_f rfl).trans ?_
  refine tt_c.trans ?_
  refine (tt_f rfl).trans ?_
  refine tt_go.trans ?_
  refine (tt_fk rfl rfl).trans ?_
  refine (tt_is rfl rfl).trans ?_
  refine (tt_f rfl).trans ?_
  refine (tt_il rfl).trans ?_
  refine (tt_f rfl).trans ?_
  exact tt_f1 (p := fun x => x = 0) inferInstance rfl
theorem B125_34 {l1 : Int32} {l2 : Int32} {l3 : Int32} {l4 : Int32}  : zd S 125 34 [some (.ref 76), some (.int l1), some (.int l2), some (.int l3), some (.int l4), none] [] I J k = if 0 = 0 then zd S 125 77 [some (.ref 76), none, none, some (.int l3), some (.int l4), some (.int 0)] [] I J k else zd S 125 42 [some (.ref 76), none, none, some (.int l3), some (.int l4), some (.int 0)] [] I J k := by
  refine (tt_f rfl).trans ?_
  refine tt_c.trans ?_
  refine (tt_fk rfl rfl).trans ?_
  refine (tt_is rfl rfl).trans ?_
  refine (tt_f rfl).trans ?_
  refine (tt_il rfl).trans ?_
  refine (tt_f rfl).trans ?_
  exact tt_f1 (p := fun x => x = 0) inferInstance rfl
theorem B125_42 {l3 : Int32} {l4 : Int32} {l5 : Int32} (hi1 : zin l3 164 = true) : zd S 125 42 [some (.ref 76), none, none, some (.int l3), some (.int l4), some (.int l5)] [] I J k = if (I 96 l3.toNatClampNeg) = 0 then zd S 125 73 [some (.ref 76), none, none, some (.int l3), some (.int l4), some (.int l5)] [] I J k else zd S 125 51 [some (.ref 76), none, none, some (.int l3), some (.int l4), some (.int l5)] [] I J k := by
  refine (tt_f rfl).trans ?_
  refine (tt_al rfl).trans ?_
  refine (tt_f rfl).trans ?_
  refine (tt_gr rfl rfl).trans ?_
  refine (tt_f rfl).trans ?_
  refine (tt_il rfl).trans ?_
  refine (tt_f rfl).trans ?_
  refine (tt_ga rfl rfl hi1).trans ?_
  refine (tt_f rfl).trans ?_
  exact tt_f1 (p := fun x => x = 0) inferInstance rfl
theorem B125_51 {l3 : Int32} {l4 : Int32} {l5 : Int32} (hi1 : zin l4 164 = true) (hi2 : zin l4 164 = true) (hi3 : zin (I 95 l4.toNatClampNeg) 20 = true) : zd S 125 51 [some (.ref 76), none, none, some (.int l3), some (.int l4), some (.int l5)] [] I J k = if ¬ (I 97 l4.toNatClampNeg) = (I 92 (I 95 l4.toNatClampNeg).toNatClampNeg) then zd S 125 77 [some (.ref 76), none, none, some (.int l3), some (.int l4), some (.int l5)] [] I J k else zd S 125 73 [some (.ref 76), none, none, some (.int l3), some (.int l4), some (.int l5)] [] I J k := by
  refine (tt_f rfl).trans ?_
  refine (tt_al rfl).trans ?_
  refine (tt_f rfl).trans ?_
  refine (tt_gr rfl rfl).trans ?_
  refine (tt_f rfl).trans ?_
  refine (tt_il rfl).trans ?_
  refine (tt_f rfl).trans ?_
  refine (tt_ga rfl rfl hi1).trans ?_
  refine (tt_f rfl).trans ?_
  refine (tt_al rfl).trans ?_
  refine (tt_f rfl).trans ?_
  refine (tt_gr rfl rfl).trans ?_
  refine (tt_f rfl).trans ?_
  refine (tt_al rfl).trans ?_
  refine (tt_f rfl).trans ?_
  refine (tt_gr rfl rfl).trans ?_
  refine (tt_f rfl).trans ?_
  refine (tt_il rfl).trans ?_
  refine (tt_f rfl).trans ?_
  refine (tt_ga rfl rfl hi2).trans ?_
  refine (tt_f rfl).trans ?_
  refine (tt_ga rfl rfl hi3).trans ?_
  refine (tt_f rfl).trans ?_
  exact tt_f2 (p := fun x y => ¬ x = y) inferInstance rfl
theorem B125_73 {l3 : Int32} {l4 : Int32} {l5 : Int32} (hz : zrt 2 (.int 1) = true) : zd S 125 73 [some (.ref 76), none, none, some (.int l3), some (.int l4), some (.int l5)] [] I J k = some ((some (.int 1)), mk I J, k) := by
  refine (tt_fk rfl rfl).trans ?_
  refine tt_c.trans ?_
  refine (tt_f rfl).trans ?_
  refine tt_go.trans ?_
  exact tt_r1 rfl hz
theorem B125_77 {l3 : Int32} {l4 : Int32} {l5 : Int32} (hz : zrt 2 (.int 0) = true) : zd S 125 77 [some (.ref 76), none, none, some (.int l3), some (.int l4), some (.int l5)] [] I J k = some ((some (.int 0)), mk I J, k) := by
  refine (tt_fk rfl rfl).trans ?_
  refine tt_c.trans ?_
  exact tt_r1 rfl hz
/-! 126: EditionGridModel.setRooms -/
theorem B126_0 {l1 : Int32} {l2 : Int32} {l3 : Int32} {l4 : Int32} {l5 : Int32}  : zd S 126 0 [some (.ref 76), some (.int l1), some (.int l2), some (.int l3), some (.int l4), some (.int l5), none, none] [] I J k = zd S 126 6 [some (.ref 76), some (.int l1), some (.int l2), some (.int l3), some (.int l4), some (.int l5), some (.int 1), some (.int 0)] [] I J k := by
  refine (tt_f rfl).trans ?_
  refine tt_c.trans ?_
  refine (tt_f rfl).trans ?_
  refine (tt_is rfl rfl).trans ?_
  refine (tt_f rfl).trans ?_
  refine tt_c.trans ?_
  refine (tt_f rfl).trans ?_
  refine (tt_is rfl rfl).trans ?_
  rfl
theorem B126_6 {l1 : Int32} {l2 : Int32} {l3 : Int32} {l4 : Int32} {l5 : Int32} {l6 : Int32} {l7 : Int32}  : zd S 126 6 [some (.ref 76), some (.int l1), some (.int l2), some (.int l3), some (.int l4), some (.int l5), some (.int l6), some (.int l7)] [] I J k = if l1 ≤ l7 then zd S 126 76 [some (.ref 76), some (.int l1), some (.int l2), some (.int l3), some (.int l4), some (.int l5), some (.int l6), some (.int l7)] [] I J k else zd S 126 12 [some (.ref 76), some (.int l1), some (.int l2), some (.int l3), some (.int l4), some (.int l5), some (.int l6), some (.int l7)] [] I J k := by
  refine (tt_fk rfl rfl).trans ?_
  refine (tt_il rfl).trans ?_
  refine (tt_f rfl).trans ?_
  refine (tt_il rfl).trans ?_
  refine (tt_f rfl).trans ?_
  exact tt_f2 (p := fun x y => y ≤ x) inferInstance rfl
theorem B126_12 {l1 : Int32} {l2 : Int32} {l3 : Int32} {l4 : Int32} {l5 : Int32} {l6 : Int32} {l7 : Int32}  : zd S 126 12 [some (.ref 76), some (.int l1), some (.int l2), some (.int l3), some (.int l4), some (.int l5), some (.int l6), some (.int l7)] [] I J k = if l3 ≤ l7 then zd S 126 30 [some (.ref 76), some (.int l1), some (.int l2), some (.int l3), some (.int l4), some (.int l5), some (.int l6), some (.int l7)] [.int l2, .int l7, .ref 106] I J k else zd S 126 25 [some (.ref 76), some (.int l1), some (.int l2), some (.int l3), some (.int l4), some (.int l5), some (.int l6), some (.int l7)] [.int l2, .int l7, .ref 106] I J k := by
  refine (tt_f rfl).trans ?_
  refine (tt_al rfl).trans ?_
  refine (tt_f rfl).trans ?_
  refine (tt_gr rfl rfl).trans ?_
  refine (tt_f rfl).trans ?_
  refine (tt_il rfl).trans ?_
  refine (tt_f rfl).trans ?_
  refine (tt_il rfl).trans ?_
  refine (tt_f rfl).trans ?_
  refine (tt_il rfl).trans ?_
  refine (tt_f rfl).trans ?_
  refine (tt_il rfl).trans ?_
  refine (tt_f rfl).trans ?_
  exact tt_f2 (p := fun x y => y ≤ x) inferInstance rfl
theorem B126_25 {l1 : Int32} {l2 : Int32} {l3 : Int32} {l4 : Int32} {l5 : Int32} {l6 : Int32} {l7 : Int32} {t1 : Int32} {t2 : Int32}  : zd S 126 25 [some (.ref 76), some (.int l1), some (.int l2), some (.int l3), some (.int l4), some (.int l5), some (.int l6), some (.int l7)] [.int t2, .int t1, .ref 106] I J k = if ¬ l7 = (l1 - 1) then zd S 126 45 [some (.ref 76), some (.int l1), some (.int l2), some (.int l3), some (.int l4), some (.int l5), some (.int l6), some (.int l7)] [.int (t2 - l4), .int t1, .ref 106] I J k else zd S 126 40 [some (.ref 76), some (.int l1), some (.int l2), some (.int l3), some (.int l4), some (.int l5), some (.int l6), some (.int l7)] [.int (t2 - l4), .int t1, .ref 106] I J k := by
  refine (tt_f rfl).trans ?_
  refine (tt_il rfl).trans ?_
  refine (tt_f rfl).trans ?_
  refine tt_go.trans ?_
  refine (tt_fk rfl rfl).trans ?_
  refine tt_bi.trans ?_
  refine (tt_f rfl).trans ?_
  refine (tt_il rfl).trans ?_
  refine (tt_f rfl).trans ?_
  refine (tt_il rfl).trans ?_
  refine (tt_f rfl).trans ?_
  refine tt_c.trans ?_
  refine (tt_f rfl).trans ?_
  refine tt_bi.trans ?_
  refine (tt_f rfl).trans ?_
  exact tt_f2 (p := fun x y => ¬ x = y) inferInstance rfl
theorem B126_30 {l1 : Int32} {l2 : Int32} {l3 : Int32} {l4 : Int32} {l5 : Int32} {l6 : Int32} {l7 : Int32} {t1 : Int32} {t2 : Int32}  : zd S 126 30 [some (.ref 76), some (.int l1), some (.int l2), some (.int l3), some (.int l4), some (.int l5), some (.int l6), some (.int l7)] [.int t2, .int t1, .ref 106] I J k = if ¬ l7 = (l1 - 1) then zd S 126 45 [some (.ref 76), some (.int l1), some (.int l2), some (.int l3), some (.int l4), some (.int l5), some (.int l6), some (.int l7)] [.int (t2 - 0), .int t1, .ref 106] I J k else zd S 126 40 [some (.ref 76), some (.int l1), some (.int l2), some (.int l3), some (.int l4), some (.int l5), some (.int l6), some (.int l7)] [.int (t2 - 0), .int t1, .ref 106] I J k := by
  refine (tt_f rfl).trans ?_
  refine tt_c.trans ?_
  refine (tt_fk rfl rfl).trans ?_
  refine tt_bi.trans ?_
  refine (tt_f rfl).trans ?_
  refine (tt_il rfl).trans ?_
  refine (tt_f rfl).trans ?_
  refine (tt_il rfl).trans ?_
  refine (tt_f rfl).trans ?_
  refine tt_c.trans ?_
  refine (tt_f rfl).trans ?_
  refine tt_bi.trans ?_
  refine (tt_f rfl).trans ?_
  exact tt_f2 (p := fun x y => ¬ x = y) inferInstance rfl
theorem B126_40 {l1 : Int32} {l2 : Int32} {l3 : Int32} {l4 : Int32} {l5 : Int32} {l6 : Int32} {l7 : Int32} {t1 : Int32} {t2 : Int32} (hi1 : zin t1 4 = true) : zd S 126 40 [some (.ref 76), some (.int l1), some (.int l2), some (.int l3), some (.int l4), some (.int l5), some (.int l6), some (.int l7)] [.int t2, .int t1, .ref 106] I J k = zd S 126 48 [some (.ref 76), some (.int l1), some (.int l2), some (.int l3), some (.int l4), some (.int l5), some (.int l6), some (.int l7)] [] (u2 I 106 t1.toNatClampNeg (t2 - l5)) J k := by
  refine (tt_f rfl).trans ?_
  refine (tt_il rfl).trans ?_
  refine (tt_f rfl).trans ?_
  refine tt_go.trans ?_
  refine (tt_fk rfl rfl).trans ?_
  refine tt_bi.trans ?_
  refine (tt_f rfl).trans ?_
  exact tt_pa rfl rfl hi1
theorem B126_45 {l1 : Int32} {l2 : Int32} {l3 : Int32} {l4 : Int32} {l5 : Int32} {l6 : Int32} {l7 : Int32} {t1 : Int32} {t2 : Int32} (hi1 : zin t1 4 = true) : zd S 126 45 [some (.ref 76), some (.int l1), some (.int l2), some (.int l3), some (.int l4), some (.int l5), some (.int l6), some (.int l7)] [.int t2, .int t1, .ref 106] I J k = zd S 126 48 [some (.ref 76), some (.int l1), some (.int l2), some (.int l3), some (.int l4), some (.int l5), some (.int l6), some (.int l7)] [] (u2 I 106 t1.toNatClampNeg (t2 - 0)) J k := by
  refine (tt_f rfl).trans ?_
  refine tt_c.trans ?_
  refine (tt_fk rfl rfl).trans ?_
  refine tt_bi.trans ?_
  refine (tt_f rfl).trans ?_
  exact tt_pa rfl rfl hi1
theorem B126_48 {l1 : Int32} {l2 : Int32} {l3 : Int32} {l4 : Int32} {l5 : Int32} {l6 : Int32} {l7 : Int32}  : zd S 126 48 [some (.ref 76), some (.int l1), some (.int l2), some (.int l3), some (.int l4), some (.int l5), some (.int l6), some (.int l7)] [] I J k = if l6 = 0 then zd S 126 67 [some (.ref 76), some (.int l1), some (.int l2), some (.int l3), some (.int l4), some (.int l5), some (.int l6), some (.int l7)] [] I J k else zd S 126 53 [some (.ref 76), some (.int l1), some (.int l2), some (.int l3), some (.int l4), some (.int l5), some (.int l6), some (.int l7)] [] I J k := by
  refine (tt_f rfl).trans ?_
  refine (tt_il rfl).trans ?_
  refine (tt_f rfl).trans ?_
  exact tt_f1 (p := fun x => x = 0) inferInstance rfl
theorem B126_53 {l1 : Int32} {l2 : Int32} {l3 : Int32} {l4 : Int32} {l5 : Int32} {l6 : Int32} {l7 : Int32} (hi1 : zin l7 4 = true) : zd S 126 53 [some (.ref 76), some (.int l1), some (.int l2), some (.int l3), some (.int l4), some (.int l5), some (.int l6), some (.int l7)] [] I J k = if (I 106 l7.toNatClampNeg) < 0 then zd S 126 67 [some (.ref 76), some (.int l1), some (.int l2), some (.int l3), some (.int l4), some (.int l5), some (.int l6), some (.int l7)] [] I J k else zd S 126 63 [some (.ref 76), some (.int l1), some (.int l2), some (.int l3), some (.int l4), some (.int l5), some (.int l6), some (.int l7)] [] I J k := by
  refine (tt_f rfl).trans ?_
  refine (tt_al rfl).trans ?_
  refine (tt_f rfl).trans ?_
  refine (tt_gr rfl rfl).trans ?_
  refine (tt_f rfl).trans ?_
  refine (tt_il rfl).trans ?_
  refine (tt_f rfl).trans ?_
  refine (tt_ga rfl rfl hi1).trans ?_
  refine (tt_f rfl).trans ?_
  exact tt_f1 (p := fun x => x < 0) inferInstance rfl
theorem B126_63 {l1 : Int32} {l2 : Int32} {l3 : Int32} {l4 : Int32} {l5 : Int32} {l6 : Int32} {l7 : Int32}  : zd S 126 63 [some (.ref 76), some (.int l1), some (.int l2), some (.int l3), some (.int l4), some (.int l5), some (.int l6), some (.int l7)] [] I J k = zd S 126 6 [some (.ref 76), some (.int l1), some (.int l2), some (.int l3), some (.int l4), some (.int l5), some (.int 1), some (.int (l7 + 1))] [] I J k := by
  refine (tt_f rfl).trans ?_
  refine tt_c.trans ?_
  refine (tt_f rfl).trans ?_
  refine tt_go.trans ?_
  refine (tt_fk rfl rfl).trans ?_
  refine (tt_is rfl rfl).trans ?_
  refine (tt_f rfl).trans ?_
  refine (tt_in rfl rfl).trans ?_
  refine (tt_f rfl).trans ?_
  refine tt_go.trans ?_
  rfl
theorem B126_67 {l1 : Int32} {l2 : Int32} {l3 : Int32} {l4 : Int32} {l5 : Int32} {l6 : Int32} {l7 : Int32}  : zd S 126 67 [some (.ref 76), some (.int l1), some (.int l2), some (.int l3), some (.int l4), some (.int l5), some (.int l6), some (.int l7)] [] I J k = zd S 126 6 [some (.ref 76), some (.int l1), some (.int l2), some (.int l3), some (.int l4), some (.int l5), some (.int 0), some (.int (l7 + 1))] [] I J k := by
  refine (tt_fk rfl rfl).trans ?_
  refine tt_c.trans ?_
  refine (tt_fk rfl rfl).trans ?_
  refine (tt_is rfl rfl).trans ?_
  refine (tt_f rfl).trans ?_
  refine (tt_in rfl rfl).trans ?_
  refine (tt_f rfl).trans ?_
  refine tt_go.trans ?_
  rfl
theorem B126_76 {l1 : Int32} {l2 : Int32} {l3 : Int32} {l4 : Int32} {l5 : Int32} {l6 : Int32} {l7 : Int32} (hz : zrt 2 (.int l6) = true) : zd S 126 76 [some (.ref 76), some (.int l1), some (.int l2), some (.int l3), some (.int l4), some (.int l5), some (.int l6), some (.int l7)] [] I J k = some ((some (.int l6)), mk I J, k) := by
  refine (tt_f rfl).trans ?_
  refine (tt_il rfl).trans ?_
  exact tt_r1 rfl hz
/-! 127: EditionGridModel.fills -/
theorem B127_0 {l1 : Int32} {l2 : Int32} {l3 : Int32} {l4 : Int32}  : zd S 127 0 [some (.ref 76), some (.int l1), some (.int l2), some (.int l3), some (.int l4), none, none, none, none, none, none] [] I J k = zd S 127 4 [some (.ref 76), some (.int l1), some (.int l2), some (.int l3), some (.int l4), some (.int l4), none, none, none, none, none] [] I J k := by
  refine (tt_f rfl).trans ?_
  refine (tt_il rfl).trans ?_
  refine (tt_f rfl).trans ?_
  refine (tt_is rfl rfl).trans ?_
  rfl
theorem B127_4 {l1 : Int32} {l2 : Int32} {l3 : Int32} {l4 : Int32} {l5 : Int32} {o6 : Option Value}  : zd S 127 4 [some (.ref 76), some (.int l1), some (.int l2), some (.int l3), some (.int l4), some (.int l5), o6, none, none, none, none] [] I J k = if l5 < 0 then zd S 127 173 [some (.ref 76), some (.int l1), some (.int l2), some (.int l3), some (.int l4), some (.int l5), none, none, none, none, none] [] I J k else zd S 127 9 [some (.ref 76), some (.int l1), some (.int l2), some (.int l3), some (.int l4), some (.int l5), none, none, none, none, none] [] I J k := by
  refine (tt_fk rfl rfl).trans ?_
  refine (tt_il rfl).trans ?_
  refine (tt_f rfl).trans ?_
  exact tt_f1 (p := fun x => x < 0) inferInstance rfl
theorem B127_9 {l1 : Int32} {l2 : Int32} {l3 : Int32} {l4 : Int32} {l5 : Int32}  : zd S 127 9 [some (.ref 76), some (.int l1), some (.int l2), some (.int l3), some (.int l4), some (.int l5), none, none, none, none, none] [] I J k = zd S 127 12 [some (.ref 76), some (.int l1), some (.int l2), some (.int l3), some (.int l4), some (.int l5), some (.int l2), none, none, none, none] [] I J k := by
  refine (tt_f rfl).trans ?_
  refine (tt_il rfl).trans ?_
  refine (tt_f rfl).trans ?_
  refine (tt_is rfl rfl).trans ?_
  rfl
theorem B127_12 {l1 : Int32} {l2 : Int32} {l3 : Int32} {l4 : Int32} {l5 : Int32} {l6 : Int32} {o7 : Option Value}  : zd S 127 12 [some (.ref 76), some (.int l1), some (.int l2), some (.int l3), some (.int l4), some (.int l5), some (.int l6), o7, none, none, none] [] I J k = if l3 < l6 then zd S 127 167 [some (.ref 76), some (.int l1), some (.int l2), some (.int l3), some (.int l4), some (.int l5), some (.int l6), none, none, none, none] [] I J k else zd S 127 18 [some (.ref 76), some (.int l1), some (.int l2), some (.int l3), some (.int l4), some (.int l5), some (.int l6), none, none, none, none] [] I J k := by
  refine (tt_fk rfl rfl).trans ?_
  refine (tt_il rfl).trans ?_
  refine (tt_f rfl).trans ?_
  refine (tt_il rfl).trans ?_
  refine (tt_f rfl).trans ?_
  exact tt_f2 (p := fun x y => y < x) inferInstance rfl
theorem B127_18 {l1 : Int32} {l2 : Int32} {l3 : Int32} {l4 : Int32} {l5 : Int32} {l6 : Int32}  : zd S 127 18 [some (.ref 76), some (.int l1), some (.int l2), some (.int l3), some (.int l4), some (.int l5), some (.int l6), none, none, none, none] [] I J k = if ¬ l5 = l4 then zd S 127 35 [some (.ref 76), some (.int l1), some (.int l2), some (.int l3), some (.int l4), some (.int l5), some (.int l6), none, none, none, none] [] I J k else zd S 127 25 [some (.ref 76), some (.int l1), some (.int l2), some (.int l3), some (.int l4), some (.int l5), some (.int l6), none, none, none, none] [] I J k := by
  refine (tt_f rfl).trans ?_
  refine (tt_il rfl).trans ?_
  refine (tt_f rfl).trans ?_
  refine (tt_il rfl).trans ?_
  refine (tt_f rfl).trans ?_
  exact tt_f2 (p := fun x y => ¬ x = y) inferInstance rfl
theorem B127_25 {l1 : Int32} {l2 : Int32} {l3 : Int32} {l4 : Int32} {l5 : Int32} {l6 : Int32}  : zd S 127 25 [some (.ref 76), some (.int l1), some (.int l2), some (.int l3), some (.int l4), some (.int l5), some (.int l6), none, none, none, none] [] I J k = if ¬ l6 = l3 then zd S 127 35 [some (.ref 76), some (.int l1), some (.int l2), some (.int l3), some (.int l4), some (.int l5), some (.int l6), none, none, none, none] [] I J k else zd S 127 31 [some (.ref 76), some (.int l1), some (.int l2), some (.int l3), some (.int l4), some (.int l5), some (.int l6), none, none, none, none] [] I J k := by
  refine (tt_f rfl).trans ?_
  refine (tt_il rfl).trans ?_
  refine (tt_f rfl).trans ?_
  refine (tt_il rfl).trans ?_
  refine (tt_f rfl).trans ?_
  exact tt_f2 (p := fun x y => ¬ x = y) inferInstance rfl
theorem B127_31 {l1 : Int32} {l2 : Int32} {l3 : Int32} {l4 : Int32} {l5 : Int32} {l6 : Int32}  : zd S 127 31 [some (.ref 76), some (.int l1), some (.int l2), some (.int l3), some (.int l4), some (.int l5), some (.int l6), none, none, none, none] [] I J k = zd S 127 41 [some (.ref 76), some (.int l1), some (.int l2), some (.int l3), some (.int l4), some (.int l5), some (.int l6), some (.int 1), some (.int 0), none, none] [] I J k := by
  refine (tt_f rfl).trans ?_
  refine tt_c.trans ?_
  refine (tt_f rfl).trans ?_
  refine tt_go.trans ?_
  refine (tt_fk rfl rfl).trans ?_
  refine (tt_is rfl rfl).trans ?_
  refine (tt_f rfl).trans ?_
  refine tt_c.trans ?_
  refine (tt_f rfl).trans ?_
  refine (tt_is rfl rfl).trans ?_
  rfl
theorem B127_35 {l1 : Int32} {l2 : Int32} {l3 : Int32} {l4 : Int32} {l5 : Int32} {l6 : Int32}  : zd S 127 35 [some (.ref 76), some (.int l1), some (.int l2), some (.int l3), some (.int l4), some (.int l5), some (.int l6), none, none, none, none] [] I J k = zd S 127 41 [some (.ref 76), some (.int l1), some (.int l2), some (.int l3), some (.int l4), some (.int l5), some (.int l6), some (.int 0), some (.int 0), none, none] [] I J k := by
  refine (tt_fk rfl rfl).trans ?_
  refine tt_c.trans ?_
  refine (tt_fk rfl rfl).trans ?_
  refine (tt_is rfl rfl).trans ?_
  refine (tt_f rfl).trans ?_
  refine tt_c.trans ?_
  refine (tt_f rfl).trans ?_
  refine (tt_is rfl rfl).trans ?_
  rfl
theorem B127_41 {l1 : Int32} {l2 : Int32} {l3 : Int32} {l4 : Int32} {l5 : Int32} {l6 : Int32} {l7 : Int32} {l8 : Int32}  : zd S 127 41 [some (.ref 76), some (.int l1), some (.int l2), some (.int l3), some (.int l4), some (.int l5), some (.int l6), some (.int l7), some (.int l8), none, none] [] I J k = if l4 ≤ l5 then zd S 127 146 [some (.ref 76), some (.int l1), some (.int l2), some (.int l3), some (.int l4), some (.int l5), some (.int l6), some (.int l7), some (.int l8), none, none] [] I J k else zd S 127 48 [some (.ref 76), some (.int l1), some (.int l2), some (.int l3), some (.int l4), some (.int l5), some (.int l6), some (.int l7), some (.int l8), none, none] [] I J k := by
  refine (tt_fk rfl rfl).trans ?_
  refine (tt_il rfl).trans ?_
  refine (tt_f rfl).trans ?_
  refine (tt_il rfl).trans ?_
  refine (tt_f rfl).trans ?_
  exact tt_f2 (p := fun x y => y ≤ x) inferInstance rfl
theorem B127_48 {l1 : Int32} {l2 : Int32} {l3 : Int32} {l4 : Int32} {l5 : Int32} {l6 : Int32} {l7 : Int32} {l8 : Int32} (hi1 : zin l5 4 = true) : zd S 127 48 [some (.ref 76), some (.int l1), some (.int l2), some (.int l3), some (.int l4), some (.int l5), some (.int l6), some (.int l7), some (.int l8), none, none] [] I J k = if (I 106 l5.toNatClampNeg) < l8 then zd S 127 146 [some (.ref 76), some (.int l1), some (.int l2), some (.int l3), some (.int l4), some (.int l5), some (.int l6), some (.int l7), some (.int l8), none, none] [] I J k else zd S 127 60 [some (.ref 76), some (.int l1), some (.int l2), some (.int l3), some (.int l4), some (.int l5), some (.int l6), some (.int l7), some (.int l8), none, none] [] I J k := by
  refine (tt_f rfl).trans ?_
  refine (tt_il rfl).trans ?_
  refine (tt_f rfl).trans ?_
  refine (tt_al rfl).trans ?_
  refine (tt_f rfl).trans ?_
  refine (tt_gr rfl rfl).trans ?_
  refine (tt_f rfl).trans ?_
  refine (tt_il rfl).trans ?_
  refine (tt_f rfl).trans ?_
  refine (tt_ga rfl rfl hi1).trans ?_
  refine (tt_f rfl).trans ?_
  exact tt_f2 (p := fun x y => y < x) inferInstance rfl
theorem B127_60 {l1 : Int32} {l2 : Int32} {l3 : Int32} {l4 : Int32} {l5 : Int32} {l6 : Int32} {l7 : Int32} {l8 : Int32}  : zd S 127 60 [some (.ref 76), some (.int l1), some (.int l2), some (.int l3), some (.int l4), some (.int l5), some (.int l6), some (.int l7), some (.int l8), none, none] [] I J k = if l3 < (l6 + l8) then zd S 127 146 [some (.ref 76), some (.int l1), some (.int l2), some (.int l3), some (.int l4), some (.int l5), some (.int l6), some (.int l7), some (.int l8), none, none] [] I J k else zd S 127 69 [some (.ref 76), some (.int l1), some (.int l2), some (.int l3), some (.int l4), some (.int l5), some (.int l6), some (.int l7), some (.int l8), none, none] [] I J k := by
  refine (tt_f rfl).trans ?_
  refine (tt_il rfl).trans ?_
  refine (tt_f rfl).trans ?_
  refine (tt_il rfl).trans ?_
  refine (tt_f rfl).trans ?_
  refine tt_bi.trans ?_
  refine (tt_f rfl).trans ?_
  refine (tt_il rfl).trans ?_
  refine (tt_f rfl).trans ?_
  exact tt_f2 (p := fun x y => y < x) inferInstance rfl
theorem B127_69 {l1 : Int32} {l2 : Int32} {l3 : Int32} {l4 : Int32} {l5 : Int32} {l6 : Int32} {l7 : Int32} {l8 : Int32}  : zd S 127 69 [some (.ref 76), some (.int l1), some (.int l2), some (.int l3), some (.int l4), some (.int l5), some (.int l6), some (.int l7), some (.int l8), none, none] [] I J k = if (l6 + l8) = l2 then zd S 127 98 [some (.ref 76), some (.int l1), some (.int l2), some (.int l3), some (.int l4), some (.int l5), some (.int l6), some (.int l7), some (.int l8), some (.int (l6 + l8)), none] [] I J k else zd S 127 82 [some (.ref 76), some (.int l1), some (.int l2), some (.int l3), some (.int l4), some (.int l5), some (.int l6), some (.int l7), some (.int l8), some (.int (l6 + l8)), none] [] I J k := by
  refine (tt_f rfl).trans ?_
  refine (tt_il rfl).trans ?_
  refine (tt_f rfl).trans ?_
  refine (tt_il rfl).trans ?_
  refine (tt_f rfl).trans ?_
  refine tt_bi.trans ?_
  refine (tt_f rfl).trans ?_
  refine (tt_is rfl rfl).trans ?_
  refine (tt_f rfl).trans ?_
  refine (tt_il rfl).trans ?_
  refine (tt_f rfl).trans ?_
  refine (tt_il rfl).trans ?_
  refine (tt_f rfl).trans ?_
  exact tt_f2 (p := fun x y => x = y) inferInstance rfl
theorem B127_82 {l1 : Int32} {l2 : Int32} {l3 : Int32} {l4 : Int32} {l5 : Int32} {l6 : Int32} {l7 : Int32} {l8 : Int32} {l9 : Int32}  : zd S 127 82 [some (.ref 76), some (.int l1), some (.int l2), some (.int l3), some (.int l4), some (.int l5), some (.int l6), some (.int l7), some (.int l8), some (.int l9), none] [] I J k = if l9 = l3 then zd S 127 98 [some (.ref 76), some (.int l1), some (.int l2), some (.int l3), some (.int l4), some (.int l5), some (.int l6), some (.int l7), some (.int l8), some (.int l9), none] [] I J k else zd S 127 88 [some (.ref 76), some (.int l1), some (.int l2), some (.int l3), some (.int l4), some (.int l5), some (.int l6), some (.int l7), some (.int l8), some (.int l9), none] [] I J k := by
  refine (tt_f rfl).trans ?_
  refine (tt_il rfl).trans ?_
  refine (tt_f rfl).trans ?_
  refine (tt_il rfl).trans ?_
  refine (tt_f rfl).trans ?_
  exact tt_f2 (p := fun x y => x = y) inferInstance rfl
theorem B127_88 {l1 : Int32} {l2 : Int32} {l3 : Int32} {l4 : Int32} {l5 : Int32} {l6 : Int32} {l7 : Int32} {l8 : Int32} {l9 : Int32} {v1 : Int32} {I2 : zI} {J3 : zJ} (hb : Nat.ble k.1 (mBu 127).1 = true ∧ Nat.ble k.2 (mBu 127).2 = true) (hq : zq S 125 [.ref 76, .int l1, .int l9] I J (some (.int v1)) I2 J3) : zd S 127 88 [some (.ref 76), some (.int l1), some (.int l2), some (.int l3), some (.int l4), some (.int l5), some (.int l6), some (.int l7), some (.int l8), some (.int l9), none] [] I J k = zd S 127 95 [some (.ref 76), some (.int l1), some (.int l2), some (.int l3), some (.int l4), some (.int l5), some (.int l6), some (.int l7), some (.int l8), some (.int l9), none] [.int v1] I2 J3 k := by
  refine (tt_f rfl).trans ?_
  refine (tt_al rfl).trans ?_
  refine (tt_f rfl).trans ?_
  refine (tt_il rfl).trans ?_
  refine (tt_f rfl).trans ?_
  refine (tt_il rfl).trans ?_
  exact tt_cv (As := [.int l1, .int l9]) rfl hb.1 hb.2 rfl rfl rfl rfl rfl hq
theorem B127_95 {l1 : Int32} {l2 : Int32} {l3 : Int32} {l4 : Int32} {l5 : Int32} {l6 : Int32} {l7 : Int32} {l8 : Int32} {l9 : Int32} {t0 : Int32}  : zd S 127 95 [some (.ref 76), some (.int l1), some (.int l2), some (.int l3), some (.int l4), some (.int l5), some (.int l6), some (.int l7), some (.int l8), some (.int l9), none] [.int t0] I J k = if ¬ t0 = 0 then zd S 127 102 [some (.ref 76), some (.int l1), some (.int l2), some (.int l3), some (.int l4), some (.int l5), some (.int l6), some (.int l7), some (.int l8), some (.int l9), none] [] I J k else zd S 127 98 [some (.ref 76), some (.int l1), some (.int l2), some (.int l3), some (.int l4), some (.int l5), some (.int l6), some (.int l7), some (.int l8), some (.int l9), none] [] I J k := by
  refine (tt_f rfl).trans ?_
  exact tt_f1 (p := fun x => ¬ x = 0) inferInstance rfl
theorem B127_98 {l1 : Int32} {l2 : Int32} {l3 : Int32} {l4 : Int32} {l5 : Int32} {l6 : Int32} {l7 : Int32} {l8 : Int32} {l9 : Int32}  : zd S 127 98 [some (.ref 76), some (.int l1), some (.int l2), some (.int l3), some (.int l4), some (.int l5), some (.int l6), some (.int l7), some (.int l8), some (.int l9), none] [] I J k = if ¬ l7 = 0 then zd S 127 133 [some (.ref 76), some (.int l1), some (.int l2), some (.int l3), some (.int l4), some (.int l5), some (.int l6), some (.int l7), some (.int l8), some (.int l9), some (.int 1)] [] I J k else zd S 127 110 [some (.ref 76), some (.int l1), some (.int l2), some (.int l3), some (.int l4), some (.int l5), some (.int l6), some (.int l7), some (.int l8), some (.int l9), some (.int 1)] [] I J k := by
  refine (tt_fk rfl rfl).trans ?_
  refine tt_c.trans ?_
  refine (tt_f rfl).trans ?_
  refine tt_go.trans ?_
  refine (tt_fk rfl rfl).trans ?_
  refine (tt_is rfl rfl).trans ?_
  refine (tt_f rfl).trans ?_
  refine (tt_il rfl).trans ?_
  refine (tt_f rfl).trans ?_
  exact tt_f1 (p := fun x => ¬ x = 0) inferInstance rfl
theorem B127_102 {l1 : Int32} {l2 : Int32} {l3 : Int32} {l4 : Int32} {l5 : Int32} {l6 : Int32} {l7 : Int32} {l8 : Int32} {l9 : Int32}  : zd S 127 102 [some (.ref 76), some (.int l1), some (.int l2), some (.int l3), some (.int l4), some (.int l5), some (.int l6), some (.int l7), some (.int l8), some (.int l9), none] [] I J k = if ¬ l7 = 0 then zd S 127 133 [some (.ref 76), some (.int l1), some (.int l2), some (.int l3), some (.int l4), some (.int l5), some (.int l6), some (.int l7), some (.int l8), some (.int l9), some (.int 0)] [] I J k else zd S 127 110 [some (.ref 76), some (.int l1), some (.int l2), some (.int l3), some (.int l4), some (.int l5), some (.int l6), some (.int l7), some (.int l8), some (.int l9), some (.int 0)] [] I J k := by
  refine (tt_f rfl).trans ?_
  refine tt_c.trans ?_
  refine (tt_fk rfl rfl).trans ?_
  refine (tt_is rfl rfl).trans ?_
  refine (tt_f rfl).trans ?_
  refine (tt_il rfl).trans ?_
  refine (tt_f rfl).trans ?_
  exact tt_f1 (p := fun x => ¬ x = 0) inferInstance rfl
theorem B127_110 {l1 : Int32} {l2 : Int32} {l3 : Int32} {l4 : Int32} {l5 : Int32} {l6 : Int32} {l7 : Int32} {l8 : Int32} {l9 : Int32} {l10 : Int32}  : zd S 127 110 [some (.ref 76), some (.int l1), some (.int l2), some (.int l3), some (.int l4), some (.int l5), some (.int l6), some (.int l7), some (.int l8), some (.int l9), some (.int l10)] [] I J k = if l10 = 0 then zd S 127 137 [some (.ref 76), some (.int l1), some (.int l2), some (.int l3), some (.int l4), some (.int l5), some (.int l6), some (.int l7), some (.int l8), some (.int l9), some (.int l10)] [] I J k else zd S 127 115 [some (.ref 76), some (.int l1), some (.int l2), some (.int l3), some (.int l4), some (.int l5), some (.int l6), some (.int l7), some (.int l8), some (.int l9), some (.int l10)] [] I J k := by
  refine (tt_f rfl).trans ?_
  refine (tt_il rfl).trans ?_
  refine (tt_f rfl).trans ?_
  exact tt_f1 (p := fun x => x = 0) inferInstance rfl
theorem B127_115 {l1 : Int32} {l2 : Int32} {l3 : Int32} {l4 : Int32} {l5 : Int32} {l6 : Int32} {l7 : Int32} {l8 : Int32} {l9 : Int32} {l10 : Int32} (hi1 : zin ((41 * (l5 + 1)) + l9) 205 = true) : zd S 127 115 [some (.ref 76), some (.int l1), some (.int l2), some (.int l3), some (.int l4), some (.int l5), some (.int l6), some (.int l7), some (.int l8), some (.int l9), some (.int l10)] [] I J k = if (I 108 ((41 * (l5 + 1)) + l9).toNatClampNeg) = 0 then zd S 127 137 [some (.ref 76), some (.int l1), some (.int l2), some (.int l3), some (.int l4), some (.int l5), some (.int l6), some (.int l7), some (.int l8), some (.int l9), some (.int l10)] [] I J k else zd S 127 133 [some (.ref 76), some (.int l1), some (.int l2), some (.int l3), some (.int l4), some (.int l5), some (.int l6), some (.int l7), some (.int l8), some (.int l9), some (.int l10)] [] I J k := by
  refine (tt_f rfl).trans ?_
  refine (tt_al rfl).trans ?_
  refine (tt_f rfl).trans ?_
  refine (tt_gr rfl rfl).trans ?_
  refine (tt_f rfl).trans ?_
  refine tt_c.trans ?_
  refine (tt_f rfl).trans ?_
  refine (tt_il rfl).trans ?_
  refine (tt_f rfl).trans ?_
  refine tt_c.trans ?_
  refine (tt_f rfl).trans ?_
  refine tt_bi.trans ?_
  refine (tt_f rfl).trans ?_
  refine tt_bi.trans ?_
  refine (tt_f rfl).trans ?_
  refine (tt_il rfl).trans ?_
  refine (tt_f rfl).trans ?_
  refine tt_bi.trans ?_
  refine (tt_f rfl).trans ?_
  refine (tt_ga rfl rfl hi1).trans ?_
  refine (tt_f rfl).trans ?_
  exact tt_f1 (p := fun x => x = 0) inferInstance rfl
theorem B127_133 {l1 : Int32} {l2 : Int32} {l3 : Int32} {l4 : Int32} {l5 : Int32} {l6 : Int32} {l7 : Int32} {l8 : Int32} {l9 : Int32} {l10 : Int32}  : zd S 127 133 [some (.ref 76), some (.int l1), some (.int l2), some (.int l3), some (.int l4), some (.int l5), some (.int l6), some (.int l7), some (.int l8), some (.int l9), some (.int l10)] [] I J k = zd S 127 41 [some (.ref 76), some (.int l1), some (.int l2), some (.int l3), some (.int l4), some (.int l5), some (.int l6), some (.int 1), some (.int (l8 + 1)), none, none] [] I J k := by
  refine (tt_fk rfl rfl).trans ?_
  refine tt_c.trans ?_
  refine (tt_f rfl).trans ?_
  refine tt_go.trans ?_
  refine (tt_fk rfl rfl).trans ?_
  refine (tt_is rfl rfl).trans ?_
  refine (tt_f rfl).trans ?_
  refine (tt_in rfl rfl).trans ?_
  refine (tt_f rfl).trans ?_
  refine tt_go.trans ?_
  rfl
theorem B127_137 {l1 : Int32} {l2 : Int32} {l3 : Int32} {l4 : Int32} {l5 : Int32} {l6 : Int32} {l7 : Int32} {l8 : Int32} {l9 : Int32} {l10 : Int32}  : zd S 127 137 [some (.ref 76), some (.int l1), some (.int l2), some (.int l3), some (.int l4), some (.int l5), some (.int l6), some (.int l7), some (.int l8), some (.int l9), some (.int l10)] [] I J k = zd S 127 41 [some (.ref 76), some (.int l1), some (.int l2), some (.int l3), some (.int l4), some (.int l5), some (.int l6), some (.int 0), some (.int (l8 + 1)), none, none] [] I J k := by
  refine (tt_fk rfl rfl).trans ?_
  refine tt_c.trans ?_
  refine (tt_fk rfl rfl).trans ?_
  refine (tt_is rfl rfl).trans ?_
  refine (tt_f rfl).trans ?_
  refine (tt_in rfl rfl).trans ?_
  refine (tt_f rfl).trans ?_
  refine tt_go.trans ?_
  rfl
theorem B127_146 {l1 : Int32} {l2 : Int32} {l3 : Int32} {l4 : Int32} {l5 : Int32} {l6 : Int32} {l7 : Int32} {l8 : Int32} (hi1 : zin ((41 * l5) + l6) 205 = true) : zd S 127 146 [some (.ref 76), some (.int l1), some (.int l2), some (.int l3), some (.int l4), some (.int l5), some (.int l6), some (.int l7), some (.int l8), none, none] [] I J k = zd S 127 161 [some (.ref 76), some (.int l1), some (.int l2), some (.int l3), some (.int l4), some (.int l5), some (.int l6), some (.int l7), none, none, none] [] (u2 I 108 ((41 * l5) + l6).toNatClampNeg (vp_nar .boolean l7)) J k := by
  refine (tt_fk rfl rfl).trans ?_
  refine (tt_al rfl).trans ?_
  refine (tt_f rfl).trans ?_
  refine (tt_gr rfl rfl).trans ?_
  refine (tt_f rfl).trans ?_
  refine tt_c.trans ?_
  refine (tt_f rfl).trans ?_
  refine (tt_il rfl).trans ?_
  refine (tt_f rfl).trans ?_
  refine tt_bi.trans ?_
  refine (tt_f rfl).trans ?_
  refine (tt_il rfl).trans ?_
  refine (tt_f rfl).trans ?_
  refine tt_bi.trans ?_
  refine (tt_f rfl).trans ?_
  refine (tt_il rfl).trans ?_
  refine (tt_f rfl).trans ?_
  exact tt_pa rfl rfl hi1
theorem B127_161 {l1 : Int32} {l2 : Int32} {l3 : Int32} {l4 : Int32} {l5 : Int32} {l6 : Int32} {l7 : Int32}  : zd S 127 161 [some (.ref 76), some (.int l1), some (.int l2), some (.int l3), some (.int l4), some (.int l5), some (.int l6), some (.int l7), none, none, none] [] I J k = zd S 127 12 [some (.ref 76), some (.int l1), some (.int l2), some (.int l3), some (.int l4), some (.int l5), some (.int (l6 + 1)), some (.int l7), none, none, none] [] I J k := by
  refine (tt_f rfl).trans ?_
  refine (tt_in rfl rfl).trans ?_
  refine (tt_f rfl).trans ?_
  refine tt_go.trans ?_
  rfl
theorem B127_167 {l1 : Int32} {l2 : Int32} {l3 : Int32} {l4 : Int32} {l5 : Int32} {l6 : Int32}  : zd S 127 167 [some (.ref 76), some (.int l1), some (.int l2), some (.int l3), some (.int l4), some (.int l5), some (.int l6), none, none, none, none] [] I J k = zd S 127 4 [some (.ref 76), some (.int l1), some (.int l2), some (.int l3), some (.int l4), some (.int (l5 + (-1))), some (.int l6), none, none, none, none] [] I J k := by
  refine (tt_f rfl).trans ?_
  refine (tt_in rfl rfl).trans ?_
  refine (tt_f rfl).trans ?_
  refine tt_go.trans ?_
  rfl
theorem B127_173 {l1 : Int32} {l2 : Int32} {l3 : Int32} {l4 : Int32} {l5 : Int32}  : zd S 127 173 [some (.ref 76), some (.int l1), some (.int l2), some (.int l3), some (.int l4), some (.int l5), none, none, none, none, none] [] I J k = zd S 127 179 [some (.ref 76), some (.int l1), some (.int l2), some (.int l3), some (.int l4), some (.int l2), some (.int 0), none, none, none, none] [] I J k := by
  refine (tt_f rfl).trans ?_
  refine (tt_il rfl).trans ?_
  refine (tt_f rfl).trans ?_
  refine (tt_is rfl rfl).trans ?_
  refine (tt_f rfl).trans ?_
  refine tt_c.trans ?_
  refine (tt_f rfl).trans ?_
  refine (tt_is rfl rfl).trans ?_
  rfl
theorem B127_179 {l1 : Int32} {l2 : Int32} {l3 : Int32} {l4 : Int32} {l5 : Int32} {l6 : Int32}  : zd S 127 179 [some (.ref 76), some (.int l1), some (.int l2), some (.int l3), some (.int l4), some (.int l5), some (.int l6), none, none, none, none] [] I J k = if l4 ≤ l6 then zd S 127 329 [some (.ref 76), some (.int l1), some (.int l2), some (.int l3), some (.int l4), some (.int l5), some (.int l6), none, none, none, none] [] I J k else zd S 127 186 [some (.ref 76), some (.int l1), some (.int l2), some (.int l3), some (.int l4), some (.int l5), some (.int l6), none, none, none, none] [] I J k := by
  refine (tt_fk rfl rfl).trans ?_
  refine (tt_il rfl).trans ?_
  refine (tt_f rfl).trans ?_
  refine (tt_il rfl).trans ?_
  refine (tt_f rfl).trans ?_
  exact tt_f2 (p := fun x y => y ≤ x) inferInstance rfl
theorem B127_186 {l1 : Int32} {l2 : Int32} {l3 : Int32} {l4 : Int32} {l5 : Int32} {l6 : Int32} (hi1 : zin l2 205 = true) : zd S 127 186 [some (.ref 76), some (.int l1), some (.int l2), some (.int l3), some (.int l4), some (.int l5), some (.int l6), none, none, none, none] [] I J k = if (I 108 l2.toNatClampNeg) = 0 then zd S 127 329 [some (.ref 76), some (.int l1), some (.int l2), some (.int l3), some (.int l4), some (.int l5), some (.int l6), none, none, none, none] [] I J k else zd S 127 195 [some (.ref 76), some (.int l1), some (.int l2), some (.int l3), some (.int l4), some (.int l5), some (.int l6), none, none, none, none] [] I J k := by
  refine (tt_f rfl).trans ?_
  refine (tt_al rfl).trans ?_
  refine (tt_f rfl).trans ?_
  refine (tt_gr rfl rfl).trans ?_
  refine (tt_f rfl).trans ?_
  refine (tt_il rfl).trans ?_
  refine (tt_f rfl).trans ?_
  refine (tt_ga rfl rfl hi1).trans ?_
  refine (tt_f rfl).trans ?_
  exact tt_f1 (p := fun x => x = 0) inferInstance rfl
theorem B127_195 {l1 : Int32} {l2 : Int32} {l3 : Int32} {l4 : Int32} {l5 : Int32} {l6 : Int32} (hi1 : zin l6 4 = true) : zd S 127 195 [some (.ref 76), some (.int l1), some (.int l2), some (.int l3), some (.int l4), some (.int l5), some (.int l6), none, none, none, none] [] I J k = zd S 127 203 [some (.ref 76), some (.int l1), some (.int l2), some (.int l3), some (.int l4), some (.int l5), some (.int l6), none, none, none, none] [] (u2 I 107 l6.toNatClampNeg 0) J k := by
  refine (tt_f rfl).trans ?_
  refine (tt_al rfl).trans ?_
  refine (tt_f rfl).trans ?_
  refine (tt_gr rfl rfl).trans ?_
  refine (tt_f rfl).trans ?_
  refine (tt_il rfl).trans ?_
  refine (tt_f rfl).trans ?_
  refine tt_c.trans ?_
  refine (tt_f rfl).trans ?_
  exact tt_pa rfl rfl hi1
theorem B127_203 {l1 : Int32} {l2 : Int32} {l3 : Int32} {l4 : Int32} {l5 : Int32} {l6 : Int32}  : zd S 127 203 [some (.ref 76), some (.int l1), some (.int l2), some (.int l3), some (.int l4), some (.int l5), some (.int l6), none, none, none, none] [] I J k = zd S 127 206 [some (.ref 76), some (.int l1), some (.int l2), some (.int l3), some (.int l4), some (.int l5), some (.int l6), some (.int 0), none, none, none] [] I J k := by
  refine (tt_f rfl).trans ?_
  refine tt_c.trans ?_
  refine (tt_f rfl).trans ?_
  refine (tt_is rfl rfl).trans ?_
  rfl
theorem B127_206 {l1 : Int32} {l2 : Int32} {l3 : Int32} {l4 : Int32} {l5 : Int32} {l6 : Int32} {l7 : Int32} (hi1 : zin l6 4 = true) : zd S 127 206 [some (.ref 76), some (.int l1), some (.int l2), some (.int l3), some (.int l4), some (.int l5), some (.int l6), some (.int l7), none, none, none] [] I J k = if (I 106 l6.toNatClampNeg) < l7 then zd S 127 311 [some (.ref 76), some (.int l1), some (.int l2), some (.int l3), some (.int l4), some (.int l5), some (.int l6), some (.int l7), none, none, none] [] I J k else zd S 127 218 [some (.ref 76), some (.int l1), some (.int l2), some (.int l3), some (.int l4), some (.int l5), some (.int l6), some (.int l7), none, none, none] [] I J k := by
  refine (tt_fk rfl rfl).trans ?_
  refine (tt_il rfl).trans ?_
  refine (tt_f rfl).trans ?_
  refine (tt_al rfl).trans ?_
  refine (tt_f rfl).trans ?_
  refine (tt_gr rfl rfl).trans ?_
  refine (tt_f rfl).trans ?_
  refine (tt_il rfl).trans ?_
  refine (tt_f rfl).trans ?_
  refine (tt_ga rfl rfl hi1).trans ?_
  refine (tt_f rfl).trans ?_
  exact tt_f2 (p := fun x y => y < x) inferInstance rfl
theorem B127_218 {l1 : Int32} {l2 : Int32} {l3 : Int32} {l4 : Int32} {l5 : Int32} {l6 : Int32} {l7 : Int32}  : zd S 127 218 [some (.ref 76), some (.int l1), some (.int l2), some (.int l3), some (.int l4), some (.int l5), some (.int l6), some (.int l7), none, none, none] [] I J k = if l3 < (l5 + l7) then zd S 127 311 [some (.ref 76), some (.int l1), some (.int l2), some (.int l3), some (.int l4), some (.int l5), some (.int l6), some (.int l7), none, none, none] [] I J k else zd S 127 227 [some (.ref 76), some (.int l1), some (.int l2), some (.int l3), some (.int l4), some (.int l5), some (.int l6), some (.int l7), none, none, none] [] I J k := by
  refine (tt_f rfl).trans ?_
  refine (tt_il rfl).trans ?_
  refine (tt_f rfl).trans ?_
  refine (tt_il rfl).trans ?_
  refine (tt_f rfl).trans ?_
  refine tt_bi.trans ?_
  refine (tt_f rfl).trans ?_
  refine (tt_il rfl).trans ?_
  refine (tt_f rfl).trans ?_
  exact tt_f2 (p := fun x y => y < x) inferInstance rfl
theorem B127_227 {l1 : Int32} {l2 : Int32} {l3 : Int32} {l4 : Int32} {l5 : Int32} {l6 : Int32} {l7 : Int32}  : zd S 127 227 [some (.ref 76), some (.int l1), some (.int l2), some (.int l3), some (.int l4), some (.int l5), some (.int l6), some (.int l7), none, none, none] [] I J k = if (l5 + l7) = l2 then zd S 127 256 [some (.ref 76), some (.int l1), some (.int l2), some (.int l3), some (.int l4), some (.int l5), some (.int l6), some (.int l7), some (.int (l5 + l7)), none, none] [] I J k else zd S 127 240 [some (.ref 76), some (.int l1), some (.int l2), some (.int l3), some (.int l4), some (.int l5), some (.int l6), some (.int l7), some (.int (l5 + l7)), none, none] [] I J k := by
  refine (tt_f rfl).trans ?_
  refine (tt_il rfl).trans ?_
  refine (tt_f rfl).trans ?_
  refine (tt_il rfl).trans ?_
  refine (tt_f rfl).trans ?_
  refine tt_bi.trans ?_
  refine (tt_f rfl).trans ?_
  refine (tt_is rfl rfl).trans ?_
  refine (tt_f rfl).trans ?_
  refine (tt_il rfl).trans ?_
  refine (tt_f rfl).trans ?_
  refine (tt_il rfl).trans ?_
  refine (tt_f rfl).trans ?_
  exact tt_f2 (p := fun x y => x = y) inferInstance rfl
theorem B127_240 {l1 : Int32} {l2 : Int32} {l3 : Int32} {l4 : Int32} {l5 : Int32} {l6 : Int32} {l7 : Int32} {l8 : Int32}  : zd S 127 240 [some (.ref 76), some (.int l1), some (.int l2), some (.int l3), some (.int l4), some (.int l5), some (.int l6), some (.int l7), some (.int l8), none, none] [] I J k = if l8 = l3 then zd S 127 256 [some (.ref 76), some (.int l1), some (.int l2), some (.int l3), some (.int l4), some (.int l5), some (.int l6), some (.int l7), some (.int l8), none, none] [] I J k else zd S 127 246 [some (.ref 76), some (.int l1), some (.int l2), some (.int l3), some (.int l4), some (.int l5), some (.int l6), some (.int l7), some (.int l8), none, none] [] I J k := by
  refine (tt_f rfl).trans ?_
  refine (tt_il rfl).trans ?_
  refine (tt_f rfl).trans ?_
  refine (tt_il rfl).trans ?_
  refine (tt_f rfl).trans ?_
  exact tt_f2 (p := fun x y => x = y) inferInstance rfl
theorem B127_246 {l1 : Int32} {l2 : Int32} {l3 : Int32} {l4 : Int32} {l5 : Int32} {l6 : Int32} {l7 : Int32} {l8 : Int32} {v1 : Int32} {I2 : zI} {J3 : zJ} (hb : Nat.ble k.1 (mBu 127).1 = true ∧ Nat.ble k.2 (mBu 127).2 = true) (hq : zq S 125 [.ref 76, .int l1, .int l8] I J (some (.int v1)) I2 J3) : zd S 127 246 [some (.ref 76), some (.int l1), some (.int l2), some (.int l3), some (.int l4), some (.int l5), some (.int l6), some (.int l7), some (.int l8), none, none] [] I J k = zd S 127 253 [some (.ref 76), some (.int l1), some (.int l2), some (.int l3), some (.int l4), some (.int l5), some (.int l6), some (.int l7), some (.int l8), none, none] [.int v1] I2 J3 k := by
  refine (tt_f rfl).trans ?_
  refine (tt_al rfl).trans ?_
  refine (tt_f rfl).trans ?_
  refine (tt_il rfl).trans ?_
  refine (tt_f rfl).trans ?_
  refine (tt_il rfl).trans ?_
  exact tt_cv (As := [.int l1, .int l8]) rfl hb.1 hb.2 rfl rfl rfl rfl rfl hq
theorem B127_253 {l1 : Int32} {l2 : Int32} {l3 : Int32} {l4 : Int32} {l5 : Int32} {l6 : Int32} {l7 : Int32} {l8 : Int32} {t0 : Int32}  : zd S 127 253 [some (.ref 76), some (.int l1), some (.int l2), some (.int l3), some (.int l4), some (.int l5), some (.int l6), some (.int l7), some (.int l8), none, none] [.int t0] I J k = if ¬ t0 = 0 then zd S 127 260 [some (.ref 76), some (.int l1), some (.int l2), some (.int l3), some (.int l4), some (.int l5), some (.int l6), some (.int l7), some (.int l8), none, none] [] I J k else zd S 127 256 [some (.ref 76), some (.int l1), some (.int l2), some (.int l3), some (.int l4), some (.int l5), some (.int l6), some (.int l7), some (.int l8), none, none] [] I J k := by
  refine (tt_f rfl).trans ?_
  exact tt_f1 (p := fun x => ¬ x = 0) inferInstance rfl
theorem B127_256 {l1 : Int32} {l2 : Int32} {l3 : Int32} {l4 : Int32} {l5 : Int32} {l6 : Int32} {l7 : Int32} {l8 : Int32}  : zd S 127 256 [some (.ref 76), some (.int l1), some (.int l2), some (.int l3), some (.int l4), some (.int l5), some (.int l6), some (.int l7), some (.int l8), none, none] [] I J k = if 1 = 0 then zd S 127 297 [some (.ref 76), some (.int l1), some (.int l2), some (.int l3), some (.int l4), some (.int l5), some (.int l6), some (.int l7), some (.int l8), some (.int 1), none] [.int l6, .ref 107] I J k else zd S 127 274 [some (.ref 76), some (.int l1), some (.int l2), some (.int l3), some (.int l4), some (.int l5), some (.int l6), some (.int l7), some (.int l8), some (.int 1), none] [.int l6, .ref 107] I J k := by
  refine (tt_fk rfl rfl).trans ?_
  refine tt_c.trans ?_
  refine (tt_f rfl).trans ?_
  refine tt_go.trans ?_
  refine (tt_fk rfl rfl).trans ?_
  refine (tt_is rfl rfl).trans ?_
  refine (tt_f rfl).trans ?_
  refine (tt_al rfl).trans ?_
  refine (tt_f rfl).trans ?_
  refine (tt_gr rfl rfl).trans ?_
  refine (tt_f rfl).trans ?_
  refine (tt_il rfl).trans ?_
  refine (tt_f rfl).trans ?_
  refine (tt_il rfl).trans ?_
  refine (tt_f rfl).trans ?_
  exact tt_f1 (p := fun x => x = 0) inferInstance rfl
theorem B127_260 {l1 : Int32} {l2 : Int32} {l3 : Int32} {l4 : Int32} {l5 : Int32} {l6 : Int32} {l7 : Int32} {l8 : Int32}  : zd S 127 260 [some (.ref 76), some (.int l1), some (.int l2), some (.int l3), some (.int l4), some (.int l5), some (.int l6), some (.int l7), some (.int l8), none, none] [] I J k = if 0 = 0 then zd S 127 297 [some (.ref 76), some (.int l1), some (.int l2), some (.int l3), some (.int l4), some (.int l5), some (.int l6), some (.int l7), some (.int l8), some (.int 0), none] [.int l6, .ref 107] I J k else zd S 127 274 [some (.ref 76), some (.int l1), some (.int l2), some (.int l3), some (.int l4), some (.int l5), some (.int l6), some (.int l7), some (.int l8), some (.int 0), none] [.int l6, .ref 107] I J k := by
  refine (tt_f rfl).trans ?_
  refine tt_c.trans ?_
  refine (tt_fk rfl rfl).trans ?_
  refine (tt_is rfl rfl).trans ?_
  refine (tt_f rfl).trans ?_
  refine (tt_al rfl).trans ?_
  refine (tt_f rfl).trans ?_
  refine (tt_gr rfl rfl).trans ?_
  refine (tt_f rfl).trans ?_
  refine (tt_il rfl).trans ?_
  refine (tt_f rfl).trans ?_
  refine (tt_il rfl).trans ?_
  refine (tt_f rfl).trans ?_
  exact tt_f1 (p := fun x => x = 0) inferInstance rfl
theorem B127_274 {l1 : Int32} {l2 : Int32} {l3 : Int32} {l4 : Int32} {l5 : Int32} {l6 : Int32} {l7 : Int32} {l8 : Int32} {l9 : Int32} {t1 : Int32} (hi1 : zin ((41 * (l6 + 1)) + l8) 205 = true) : zd S 127 274 [some (.ref 76), some (.int l1), some (.int l2), some (.int l3), some (.int l4), some (.int l5), some (.int l6), some (.int l7), some (.int l8), some (.int l9), none] [.int t1, .ref 107] I J k = if (I 108 ((41 * (l6 + 1)) + l8).toNatClampNeg) = 0 then zd S 127 297 [some (.ref 76), some (.int l1), some (.int l2), some (.int l3), some (.int l4), some (.int l5), some (.int l6), some (.int l7), some (.int l8), some (.int l9), none] [.int t1, .ref 107] I J k else zd S 127 292 [some (.ref 76), some (.int l1), some (.int l2), some (.int l3), some (.int l4), some (.int l5), some (.int l6), some (.int l7), some (.int l8), some (.int l9), none] [.int t1, .ref 107] I J k := by
  refine (tt_f rfl).trans ?_
  refine (tt_al rfl).trans ?_
  refine (tt_f rfl).trans ?_
  refine (tt_gr rfl rfl).trans ?_
  refine (tt_f rfl).trans ?_
  refine tt_c.trans ?_
  refine (tt_f rfl).trans ?_
  refine (tt_il rfl).trans ?_
  refine (tt_f rfl).trans ?_
  refine tt_c.trans ?_
  refine (tt_f rfl).trans ?_
  refine tt_bi.trans ?_
  refine (tt_f rfl).trans ?_
  refine tt_bi.trans ?_
  refine (tt_f rfl).trans ?_
  refine (tt_il rfl).trans ?_
  refine (tt_f rfl).trans ?_
  refine tt_bi.trans ?_
  refine (tt_f rfl).trans ?_
  refine (tt_ga rfl rfl hi1).trans ?_
  refine (tt_f rfl).trans ?_
  exact tt_f1 (p := fun x => x = 0) inferInstance rfl
theorem B127_292 {l1 : Int32} {l2 : Int32} {l3 : Int32} {l4 : Int32} {l5 : Int32} {l6 : Int32} {l7 : Int32} {l8 : Int32} {l9 : Int32} {t1 : Int32} (hi1 : zin t1 4 = true) : zd S 127 292 [some (.ref 76), some (.int l1), some (.int l2), some (.int l3), some (.int l4), some (.int l5), some (.int l6), some (.int l7), some (.int l8), some (.int l9), none] [.int t1, .ref 107] I J k = zd S 127 305 [some (.ref 76), some (.int l1), some (.int l2), some (.int l3), some (.int l4), some (.int l5), some (.int l6), some (.int l7), none, none, none] [] (u2 I 107 t1.toNatClampNeg l7) J k := by
  refine (tt_f rfl).trans ?_
  refine (tt_il rfl).trans ?_
  refine (tt_f rfl).trans ?_
  refine tt_go.trans ?_
  refine (tt_fk rfl rfl).trans ?_
  exact tt_pa rfl rfl hi1
theorem B127_297 {l1 : Int32} {l2 : Int32} {l3 : Int32} {l4 : Int32} {l5 : Int32} {l6 : Int32} {l7 : Int32} {l8 : Int32} {l9 : Int32} {t1 : Int32} (hi1 : zin l6 4 = true) (hi2 : zin t1 4 = true) : zd S 127 297 [some (.ref 76), some (.int l1), some (.int l2), some (.int l3), some (.int l4), some (.int l5), some (.int l6), some (.int l7), some (.int l8), some (.int l9), none] [.int t1, .ref 107] I J k = zd S 127 305 [some (.ref 76), some (.int l1), some (.int l2), some (.int l3), some (.int l4), some (.int l5), some (.int l6), some (.int l7), none, none, none] [] (u2 I 107 t1.toNatClampNeg (I 107 l6.toNatClampNeg)) J k := by
  refine (tt_fk rfl rfl).trans ?_
  refine (tt_al rfl).trans ?_
  refine (tt_f rfl).trans ?_
  refine (tt_gr rfl rfl).trans ?_
  refine (tt_f rfl).trans ?_
  refine (tt_il rfl).trans ?_
  refine (tt_f rfl).trans ?_
  refine (tt_ga rfl rfl hi1).trans ?_
  refine (tt_fk rfl rfl).trans ?_
  exact tt_pa rfl rfl hi2
theorem B127_305 {l1 : Int32} {l2 : Int32} {l3 : Int32} {l4 : Int32} {l5 : Int32} {l6 : Int32} {l7 : Int32}  : zd S 127 305 [some (.ref 76), some (.int l1), some (.int l2), some (.int l3), some (.int l4), some (.int l5), some (.int l6), some (.int l7), none, none, none] [] I J k = zd S 127 206 [some (.ref 76), some (.int l1), some (.int l2), some (.int l3), some (.int l4), some (.int l5), some (.int l6), some (.int (l7 + 1)), none, none, none] [] I J k := by
  refine (tt_f rfl).trans ?_
  refine (tt_in rfl rfl).trans ?_
  refine (tt_f rfl).trans ?_
  refine tt_go.trans ?_
  rfl
theorem B127_311 {l1 : Int32} {l2 : Int32} {l3 : Int32} {l4 : Int32} {l5 : Int32} {l6 : Int32} {l7 : Int32} (hi1 : zin l6 4 = true) : zd S 127 311 [some (.ref 76), some (.int l1), some (.int l2), some (.int l3), some (.int l4), some (.int l5), some (.int l6), some (.int l7), none, none, none] [] I J k = zd S 127 179 [some (.ref 76), some (.int l1), some (.int l2), some (.int l3), some (.int l4), some (.int (l5 + (I 107 l6.toNatClampNeg))), some (.int (l6 + 1)), none, none, none, none] [] I J k := by
  refine (tt_fk rfl rfl).trans ?_
  refine (tt_il rfl).trans ?_
  refine (tt_f rfl).trans ?_
  refine (tt_al rfl).trans ?_
  refine (tt_f rfl).trans ?_
  refine (tt_gr rfl rfl).trans ?_
  refine (tt_f rfl).trans ?_
  refine (tt_il rfl).trans ?_
  refine (tt_f rfl).trans ?_
  refine (tt_ga rfl rfl hi1).trans ?_
  refine (tt_f rfl).trans ?_
  refine tt_bi.trans ?_
  refine (tt_f rfl).trans ?_
  refine (tt_is rfl rfl).trans ?_
  refine (tt_f rfl).trans ?_
  refine (tt_in rfl rfl).trans ?_
  refine (tt_f rfl).trans ?_
  refine tt_go.trans ?_
  rfl
theorem B127_329 {l1 : Int32} {l2 : Int32} {l3 : Int32} {l4 : Int32} {l5 : Int32} {l6 : Int32} (hi1 : zin l2 205 = true) (hz : zrt 2 (.int (I 108 l2.toNatClampNeg)) = true) : zd S 127 329 [some (.ref 76), some (.int l1), some (.int l2), some (.int l3), some (.int l4), some (.int l5), some (.int l6), none, none, none, none] [] I J k = some ((some (.int (I 108 l2.toNatClampNeg))), mk I J, k) := by
  refine (tt_fk rfl rfl).trans ?_
  refine (tt_al rfl).trans ?_
  refine (tt_f rfl).trans ?_
  refine (tt_gr rfl rfl).trans ?_
  refine (tt_f rfl).trans ?_
  refine (tt_il rfl).trans ?_
  refine (tt_f rfl).trans ?_
  refine (tt_ga rfl rfl hi1).trans ?_
  exact tt_r1 rfl hz
/-! 128: EditionGridModel.isFree -/
theorem B128_0 {l1 : Int32} {l2 : Int32} {l3 : Int32} {l4 : Int32} {l5 : Int32}  : zd S 128 0 [some (.ref 76), some (.int l1), some (.int l2), some (.int l3), some (.int l4), some (.int l5), none, none, none] [] I J k = if (I 76 0) < (l2 + l4) then zd S 128 26 [some (.ref 76), some (.int l1), some (.int l2), some (.int l3), some (.int l4), some (.int l5), none, none, none] [] I J k else zd S 128 11 [some (.ref 76), some (.int l1), some (.int l2), some (.int l3), some (.int l4), some (.int l5), none, none, none] [] I J k := by
  refine (tt_f rfl).trans ?_
  refine (tt_il rfl).trans ?_
  refine (tt_f rfl).trans ?_
  refine (tt_il rfl).trans ?_
  refine (tt_f rfl).trans ?_
  refine tt_bi.trans ?_
  refine (tt_f rfl).trans ?_
  refine (tt_al rfl).trans ?_
  refine (tt_f rfl).trans ?_
  refine (tt_gi rfl rfl).trans ?_
  refine (tt_f rfl).trans ?_
  exact tt_f2 (p := fun x y => y < x) inferInstance rfl
theorem B128_11 {l1 : Int32} {l2 : Int32} {l3 : Int32} {l4 : Int32} {l5 : Int32}  : zd S 128 11 [some (.ref 76), some (.int l1), some (.int l2), some (.int l3), some (.int l4), some (.int l5), none, none, none] [] I J k = if (I 76 1) < (l3 + l5) then zd S 128 26 [some (.ref 76), some (.int l1), some (.int l2), some (.int l3), some (.int l4), some (.int l5), none, none, none] [] I J k else zd S 128 22 [some (.ref 76), some (.int l1), some (.int l2), some (.int l3), some (.int l4), some (.int l5), none, none, none] [] I J k := by
  refine (tt_f rfl).trans ?_
  refine (tt_il rfl).trans ?_
  refine (tt_f rfl).trans ?_
  refine (tt_il rfl).trans ?_
  refine (tt_f rfl).trans ?_
  refine tt_bi.trans ?_
  refine (tt_f rfl).trans ?_
  refine (tt_al rfl).trans ?_
  refine (tt_f rfl).trans ?_
  refine (tt_gi rfl rfl).trans ?_
  refine (tt_f rfl).trans ?_
  exact tt_f2 (p := fun x y => y < x) inferInstance rfl
theorem B128_22 {l1 : Int32} {l2 : Int32} {l3 : Int32} {l4 : Int32} {l5 : Int32}  : zd S 128 22 [some (.ref 76), some (.int l1), some (.int l2), some (.int l3), some (.int l4), some (.int l5), none, none, none] [] I J k = zd S 128 32 [some (.ref 76), some (.int l1), some (.int l2), some (.int l3), some (.int l4), some (.int l5), some (.int 1), some (.int l2), none] [] I J k := by
  refine (tt_f rfl).trans ?_
  refine tt_c.trans ?_
  refine (tt_f rfl).trans ?_
  refine tt_go.trans ?_
  refine (tt_fk rfl rfl).trans ?_
  refine (tt_is rfl rfl).trans ?_
  refine (tt_f rfl).trans ?_
  refine (tt_il rfl).trans ?_
  refine (tt_f rfl).trans ?_
  refine (tt_is rfl rfl).trans ?_
  rfl
theorem B128_26 {l1 : Int32} {l2 : Int32} {l3 : Int32} {l4 : Int32} {l5 : Int32}  : zd S 128 26 [some (.ref 76), some (.int l1), some (.int l2), some (.int l3), some (.int l4), some (.int l5), none, none, none] [] I J k = zd S 128 32 [some (.ref 76), some (.int l1), some (.int l2), some (.int l3), some (.int l4), some (.int l5), some (.int 0), some (.int l2), none] [] I J k := by
  refine (tt_fk rfl rfl).trans ?_
  refine tt_c.trans ?_
  refine (tt_fk rfl rfl).trans ?_
  refine (tt_is rfl rfl).trans ?_
  refine (tt_f rfl).trans ?_
  refine (tt_il rfl).trans ?_
  refine (tt_f rfl).trans ?_
  refine (tt_is rfl rfl).trans ?_
  rfl
theorem B128_32 {l1 : Int32} {l2 : Int32} {l3 : Int32} {l4 : Int32} {l5 : Int32} {l6 : Int32} {l7 : Int32}  : zd S 128 32 [some (.ref 76), some (.int l1), some (.int l2), some (.int l3), some (.int l4), some (.int l5), some (.int l6), some (.int l7), none] [] I J k = if (l2 + l4) ≤ l7 then zd S 128 103 [some (.ref 76), some (.int l1), some (.int l2), some (.int l3), some (.int l4), some (.int l5), some (.int l6), some (.int l7), none] [] I J k else zd S 128 41 [some (.ref 76), some (.int l1), some (.int l2), some (.int l3), some (.int l4), some (.int l5), some (.int l6), some (.int l7), none] [] I J k := by
  refine (tt_fk rfl rfl).trans ?_
  refine (tt_il rfl).trans ?_
  refine (tt_f rfl).trans ?_
  refine (tt_il rfl).trans ?_
  refine (tt_f rfl).trans ?_
  refine (tt_il rfl).trans ?_
  refine (tt_f rfl).trans ?_
  refine tt_bi.trans ?_
  refine (tt_f rfl).trans ?_
  exact tt_f2 (p := fun x y => y ≤ x) inferInstance rfl
theorem B128_41 {l1 : Int32} {l2 : Int32} {l3 : Int32} {l4 : Int32} {l5 : Int32} {l6 : Int32} {l7 : Int32}  : zd S 128 41 [some (.ref 76), some (.int l1), some (.int l2), some (.int l3), some (.int l4), some (.int l5), some (.int l6), some (.int l7), none] [] I J k = if l6 = 0 then zd S 128 103 [some (.ref 76), some (.int l1), some (.int l2), some (.int l3), some (.int l4), some (.int l5), some (.int l6), some (.int l7), none] [] I J k else zd S 128 46 [some (.ref 76), some (.int l1), some (.int l2), some (.int l3), some (.int l4), some (.int l5), some (.int l6), some (.int l7), none] [] I J k := by
  refine (tt_f rfl).trans ?_
  refine (tt_il rfl).trans ?_
  refine (tt_f rfl).trans ?_
  exact tt_f1 (p := fun x => x = 0) inferInstance rfl
theorem B128_46 {l1 : Int32} {l2 : Int32} {l3 : Int32} {l4 : Int32} {l5 : Int32} {l6 : Int32} {l7 : Int32}  : zd S 128 46 [some (.ref 76), some (.int l1), some (.int l2), some (.int l3), some (.int l4), some (.int l5), some (.int l6), some (.int l7), none] [] I J k = zd S 128 49 [some (.ref 76), some (.int l1), some (.int l2), some (.int l3), some (.int l4), some (.int l5), some (.int l6), some (.int l7), some (.int l3)] [] I J k := by
  refine (tt_f rfl).trans ?_
  refine (tt_il rfl).trans ?_
  refine (tt_f rfl).trans ?_
  refine (tt_is rfl rfl).trans ?_
  rfl
theorem B128_49 {l1 : Int32} {l2 : Int32} {l3 : Int32} {l4 : Int32} {l5 : Int32} {l6 : Int32} {l7 : Int32} {l8 : Int32}  : zd S 128 49 [some (.ref 76), some (.int l1), some (.int l2), some (.int l3), some (.int l4), some (.int l5), some (.int l6), some (.int l7), some (.int l8)] [] I J k = if (l3 + l5) ≤ l8 then zd S 128 97 [some (.ref 76), some (.int l1), some (.int l2), some (.int l3), some (.int l4), some (.int l5), some (.int l6), some (.int l7), some (.int l8)] [] I J k else zd S 128 58 [some (.ref 76), some (.int l1), some (.int l2), some (.int l3), some (.int l4), some (.int l5), some (.int l6), some (.int l7), some (.int l8)] [] I J k := by
  refine (tt_fk rfl rfl).trans ?_
  refine (tt_il rfl).trans ?_
  refine (tt_f rfl).trans ?_
  refine (tt_il rfl).trans ?_
  refine (tt_f rfl).trans ?_
  refine (tt_il rfl).trans ?_
  refine (tt_f rfl).trans ?_
  refine tt_bi.trans ?_
  refine (tt_f rfl).trans ?_
  exact tt_f2 (p := fun x y => y ≤ x) inferInstance rfl
theorem B128_58 {l1 : Int32} {l2 : Int32} {l3 : Int32} {l4 : Int32} {l5 : Int32} {l6 : Int32} {l7 : Int32} {l8 : Int32}  : zd S 128 58 [some (.ref 76), some (.int l1), some (.int l2), some (.int l3), some (.int l4), some (.int l5), some (.int l6), some (.int l7), some (.int l8)] [] I J k = if l6 = 0 then zd S 128 97 [some (.ref 76), some (.int l1), some (.int l2), some (.int l3), some (.int l4), some (.int l5), some (.int l6), some (.int l7), some (.int l8)] [] I J k else zd S 128 63 [some (.ref 76), some (.int l1), some (.int l2), some (.int l3), some (.int l4), some (.int l5), some (.int l6), some (.int l7), some (.int l8)] [] I J k := by
  refine (tt_f rfl).trans ?_
  refine (tt_il rfl).trans ?_
  refine (tt_f rfl).trans ?_
  exact tt_f1 (p := fun x => x = 0) inferInstance rfl
theorem B128_63 {l1 : Int32} {l2 : Int32} {l3 : Int32} {l4 : Int32} {l5 : Int32} {l6 : Int32} {l7 : Int32} {l8 : Int32} (hi1 : zin (((64 * l1) + (16 * l7)) + l8) 192 = true) : zd S 128 63 [some (.ref 76), some (.int l1), some (.int l2), some (.int l3), some (.int l4), some (.int l5), some (.int l6), some (.int l7), some (.int l8)] [] I J k = if ¬ (I 105 (((64 * l1) + (16 * l7)) + l8).toNatClampNeg) = 0 then zd S 128 88 [some (.ref 76), some (.int l1), some (.int l2), some (.int l3), some (.int l4), some (.int l5), some (.int l6), some (.int l7), some (.int l8)] [] I J k else zd S 128 84 [some (.ref 76), some (.int l1), some (.int l2), some (.int l3), some (.int l4), some (.int l5), some (.int l6), some (.int l7), some (.int l8)] [] I J k := by
  refine (tt_f rfl).trans ?_
  refine (tt_al rfl).trans ?_
  refine (tt_f rfl).trans ?_
  refine (tt_gr rfl rfl).trans ?_
  refine (tt_f rfl).trans ?_
  refine tt_c.trans ?_
  refine (tt_f rfl).trans ?_
  refine (tt_il rfl).trans ?_
  refine (tt_f rfl).trans ?_
  refine tt_bi.trans ?_
  refine (tt_f rfl).trans ?_
  refine tt_c.trans ?_
  refine (tt_f rfl).trans ?_
  refine (tt_il rfl).trans ?_
  refine (tt_f rfl).trans ?_
  refine tt_bi.trans ?_
  refine (tt_f rfl).trans ?_
  refine tt_bi.trans ?_
  refine (tt_f rfl).trans ?_
  refine (tt_il rfl).trans ?_
  refine (tt_f rfl).trans ?_
  refine tt_bi.trans ?_
  refine (tt_f rfl).trans ?_
  refine (tt_ga rfl rfl hi1).trans ?_
  refine (tt_f rfl).trans ?_
  exact tt_f1 (p := fun x => ¬ x = 0) inferInstance rfl
theorem B128_84 {l1 : Int32} {l2 : Int32} {l3 : Int32} {l4 : Int32} {l5 : Int32} {l6 : Int32} {l7 : Int32} {l8 : Int32}  : zd S 128 84 [some (.ref 76), some (.int l1), some (.int l2), some (.int l3), some (.int l4), some (.int l5), some (.int l6), some (.int l7), some (.int l8)] [] I J k = zd S 128 49 [some (.ref 76), some (.int l1), some (.int l2), some (.int l3), some (.int l4), some (.int l5), some (.int 1), some (.int l7), some (.int (l8 + 1))] [] I J k := by
  refine (tt_f rfl).trans ?_
  refine tt_c.trans ?_
  refine (tt_f rfl).trans ?_
  refine tt_go.trans ?_
  refine (tt_fk rfl rfl).trans ?_
  refine (tt_is rfl rfl).trans ?_
  refine (tt_f rfl).trans ?_
  refine (tt_in rfl rfl).trans ?_
  refine (tt_f rfl).trans ?_
  refine tt_go.trans ?_
  rfl
theorem B128_88 {l1 : Int32} {l2 : Int32} {l3 : Int32} {l4 : Int32} {l5 : Int32} {l6 : Int32} {l7 : Int32} {l8 : Int32}  : zd S 128 88 [some (.ref 76), some (.int l1), some (.int l2), some (.int l3), some (.int l4), some (.int l5), some (.int l6), some (.int l7), some (.int l8)] [] I J k = zd S 128 49 [some (.ref 76), some (.int l1), some (.int l2), some (.int l3), some (.int l4), some (.int l5), some (.int 0), some (.int l7), some (.int (l8 + 1))] [] I J k := by
  refine (tt_f rfl).trans ?_
  refine tt_c.trans ?_
  refine (tt_fk rfl rfl).trans ?_
  refine (tt_is rfl rfl).trans ?_
  refine (tt_f rfl).trans ?_
  refine (tt_in rfl rfl).trans ?_
  refine (tt_f rfl).trans ?_
  refine tt_go.trans ?_
  rfl
theorem B128_97 {l1 : Int32} {l2 : Int32} {l3 : Int32} {l4 : Int32} {l5 : Int32} {l6 : Int32} {l7 : Int32} {l8 : Int32}  : zd S 128 97 [some (.ref 76), some (.int l1), some (.int l2), some (.int l3), some (.int l4), some (.int l5), some (.int l6), some (.int l7), some (.int l8)] [] I J k = zd S 128 32 [some (.ref 76), some (.int l1), some (.int l2), some (.int l3), some (.int l4), some (.int l5), some (.int l6), some (.int (l7 + 1)), none] [] I J k := by
  refine (tt_fk rfl rfl).trans ?_
  refine (tt_in rfl rfl).trans ?_
  refine (tt_f rfl).trans ?_
  refine tt_go.trans ?_
  rfl
theorem B128_103 {l1 : Int32} {l2 : Int32} {l3 : Int32} {l4 : Int32} {l5 : Int32} {l6 : Int32} {l7 : Int32} (hz : zrt 2 (.int l6) = true) : zd S 128 103 [some (.ref 76), some (.int l1), some (.int l2), some (.int l3), some (.int l4), some (.int l5), some (.int l6), some (.int l7), none] [] I J k = some ((some (.int l6)), mk I J, k) := by
  refine (tt_fk rfl rfl).trans ?_
  refine (tt_il rfl).trans ?_
  exact tt_r1 rfl hz
/-! 129: EditionGridModel.findOn -/
theorem B129_0 {l1 : Int32} {l2 : Int32} {l3 : Int32}  : zd S 129 0 [some (.ref 76), some (.int l1), some (.int l2), some (.int l3), none, none] [] I J k = zd S 129 3 [some (.ref 76), some (.int l1), some (.int l2), some (.int l3), some (.int 0), none] [] I J k := by
  refine (tt_f rfl).trans ?_
  refine tt_c.trans ?_
  refine (tt_f rfl).trans ?_
  refine (tt_is rfl rfl).trans ?_
  rfl
theorem B129_3 {l1 : Int32} {l2 : Int32} {l3 : Int32} {l4 : Int32} {o5 : Option Value}  : zd S 129 3 [some (.ref 76), some (.int l1), some (.int l2), some (.int l3), some (.int l4), o5] [] I J k = if (I 76 1) ≤ l4 then zd S 129 74 [some (.ref 76), some (.int l1), some (.int l2), some (.int l3), some (.int l4), none] [] I J k else zd S 129 12 [some (.ref 76), some (.int l1), some (.int l2), some (.int l3), some (.int l4), none] [] I J k := by
  refine (tt_fk rfl rfl).trans ?_
  refine (tt_il rfl).trans ?_
  refine (tt_f rfl).trans ?_
  refine (tt_al rfl).trans ?_
  refine (tt_f rfl).trans ?_
  refine (tt_gi rfl rfl).trans ?_
  refine (tt_f rfl).trans ?_
  exact tt_f2 (p := fun x y => y ≤ x) inferInstance rfl
theorem B129_12 {l1 : Int32} {l2 : Int32} {l3 : Int32} {l4 : Int32}  : zd S 129 12 [some (.ref 76), some (.int l1), some (.int l2), some (.int l3), some (.int l4), none] [] I J k = zd S 129 15 [some (.ref 76), some (.int l1), some (.int l2), some (.int l3), some (.int l4), some (.int 0)] [] I J k := by
  refine (tt_f rfl).trans ?_
  refine tt_c.trans ?_
  refine (tt_f rfl).trans ?_
  refine (tt_is rfl rfl).trans ?_
  rfl
theorem B129_15 {l1 : Int32} {l2 : Int32} {l3 : Int32} {l4 : Int32} {l5 : Int32}  : zd S 129 15 [some (.ref 76), some (.int l1), some (.int l2), some (.int l3), some (.int l4), some (.int l5)] [] I J k = if (I 76 0) ≤ l5 then zd S 129 68 [some (.ref 76), some (.int l1), some (.int l2), some (.int l3), some (.int l4), some (.int l5)] [] I J k else zd S 129 24 [some (.ref 76), some (.int l1), some (.int l2), some (.int l3), some (.int l4), some (.int l5)] [] I J k := by
  refine (tt_fk rfl rfl).trans ?_
  refine (tt_il rfl).trans ?_
  refine (tt_f rfl).trans ?_
  refine (tt_al rfl).trans ?_
  refine (tt_f rfl).trans ?_
  refine (tt_gi rfl rfl).trans ?_
  refine (tt_f rfl).trans ?_
  exact tt_f2 (p := fun x y => y ≤ x) inferInstance rfl
theorem B129_24 {l1 : Int32} {l2 : Int32} {l3 : Int32} {l4 : Int32} {l5 : Int32} {v1 : Int32} {I2 : zI} {J3 : zJ} (hb : Nat.ble k.1 (mBu 129).1 = true ∧ Nat.ble k.2 (mBu 129).2 = true) (hq : zq S 128 [.ref 76, .int l1, .int l5, .int l4, .int l2, .int l3] I J (some (.int v1)) I2 J3) : zd S 129 24 [some (.ref 76), some (.int l1), some (.int l2), some (.int l3), some (.int l4), some (.int l5)] [] I J k = zd S 129 35 [some (.ref 76), some (.int l1), some (.int l2), some (.int l3), some (.int l4), some (.int l5)] [.int v1] I2 J3 k := by
  refine (tt_f rfl).trans ?_
  refine (tt_al rfl).trans ?_
  refine (tt_f rfl).trans ?_
  refine (tt_il rfl).trans ?_
  refine (tt_f rfl).trans ?_
  refine (tt_il rfl).trans ?_
  refine (tt_f rfl).trans ?_
  refine (tt_il rfl).trans ?_
  refine (tt_f rfl).trans ?_
  refine (tt_il rfl).trans ?_
  refine (tt_f rfl).trans ?_
  refine (tt_il rfl).trans ?_
  exact tt_cv (As := [.int l1, .int l5, .int l4, .int l2, .int l3]) rfl hb.1 hb.2 rfl rfl rfl rfl rfl hq
theorem B129_35 {l1 : Int32} {l2 : Int32} {l3 : Int32} {l4 : Int32} {l5 : Int32} {t0 : Int32}  : zd S 129 35 [some (.ref 76), some (.int l1), some (.int l2), some (.int l3), some (.int l4), some (.int l5)] [.int t0] I J k = if t0 = 0 then zd S 129 62 [some (.ref 76), some (.int l1), some (.int l2), some (.int l3), some (.int l4), some (.int l5)] [] I J k else zd S 129 38 [some (.ref 76), some (.int l1), some (.int l2), some (.int l3), some (.int l4), some (.int l5)] [] I J k := by
  refine (tt_f rfl).trans ?_
  exact tt_f1 (p := fun x => x = 0) inferInstance rfl
theorem B129_38 {l1 : Int32} {l2 : Int32} {l3 : Int32} {l4 : Int32} {l5 : Int32}  : zd S 129 38 [some (.ref 76), some (.int l1), some (.int l2), some (.int l3), some (.int l4), some (.int l5)] [] I J k = zd S 129 43 [some (.ref 76), some (.int l1), some (.int l2), some (.int l3), some (.int l4), some (.int l5)] [] (u2 I 76 42 l1) J k := by
  refine (tt_f rfl).trans ?_
  refine (tt_al rfl).trans ?_
  refine (tt_f rfl).trans ?_
  refine (tt_il rfl).trans ?_
  refine (tt_f rfl).trans ?_
  exact tt_pi rfl rfl rfl
theorem B129_43 {l1 : Int32} {l2 : Int32} {l3 : Int32} {l4 : Int32} {l5 : Int32}  : zd S 129 43 [some (.ref 76), some (.int l1), some (.int l2), some (.int l3), some (.int l4), some (.int l5)] [] I J k = zd S 129 49 [some (.ref 76), some (.int l1), some (.int l2), some (.int l3), some (.int l4), some (.int l5)] [] (u2 I 76 43 l5) J k := by
  refine (tt_f rfl).trans ?_
  refine (tt_al rfl).trans ?_
  refine (tt_f rfl).trans ?_
  refine (tt_il rfl).trans ?_
  refine (tt_f rfl).trans ?_
  exact tt_pi rfl rfl rfl
theorem B129_49 {l1 : Int32} {l2 : Int32} {l3 : Int32} {l4 : Int32} {l5 : Int32}  : zd S 129 49 [some (.ref 76), some (.int l1), some (.int l2), some (.int l3), some (.int l4), some (.int l5)] [] I J k = zd S 129 55 [some (.ref 76), some (.int l1), some (.int l2), some (.int l3), some (.int l4), some (.int l5)] [] (u2 I 76 44 l4) J k := by
  refine (tt_f rfl).trans ?_
  refine (tt_al rfl).trans ?_
  refine (tt_f rfl).trans ?_
  refine (tt_il rfl).trans ?_
  refine (tt_f rfl).trans ?_
  exact tt_pi rfl rfl rfl
theorem B129_55 {l1 : Int32} {l2 : Int32} {l3 : Int32} {l4 : Int32} {l5 : Int32}  : zd S 129 55 [some (.ref 76), some (.int l1), some (.int l2), some (.int l3), some (.int l4), some (.int l5)] [] I J k = zd S 129 60 [some (.ref 76), some (.int l1), some (.int l2), some (.int l3), some (.int l4), some (.int l5)] [] (u2 I 76 45 l2) J k := by
  refine (tt_f rfl).trans ?_
  refine (tt_al rfl).trans ?_
  refine (tt_f rfl).trans ?_
  refine (tt_il rfl).trans ?_
  refine (tt_f rfl).trans ?_
  exact tt_pi rfl rfl rfl
theorem B129_60 {l1 : Int32} {l2 : Int32} {l3 : Int32} {l4 : Int32} {l5 : Int32} (hz : zrt 2 (.int 1) = true) : zd S 129 60 [some (.ref 76), some (.int l1), some (.int l2), some (.int l3), some (.int l4), some (.int l5)] [] I J k = some ((some (.int 1)), mk I J, k) := by
  refine (tt_f rfl).trans ?_
  refine tt_c.trans ?_
  exact tt_r1 rfl hz
theorem B129_62 {l1 : Int32} {l2 : Int32} {l3 : Int32} {l4 : Int32} {l5 : Int32}  : zd S 129 62 [some (.ref 76), some (.int l1), some (.int l2), some (.int l3), some (.int l4), some (.int l5)] [] I J k = zd S 129 15 [some (.ref 76), some (.int l1), some (.int l2), some (.int l3), some (.int l4), some (.int (l5 + 1))] [] I J k := by
  refine (tt_f rfl).trans ?_
  refine (tt_in rfl rfl).trans ?_
  refine (tt_f rfl).trans ?_
  refine tt_go.trans ?_
  rfl
theorem B129_68 {l1 : Int32} {l2 : Int32} {l3 : Int32} {l4 : Int32} {l5 : Int32}  : zd S 129 68 [some (.ref 76), some (.int l1), some (.int l2), some (.int l3), some (.int l4), some (.int l5)] [] I J k = zd S 129 3 [some (.ref 76), some (.int l1), some (.int l2), some (.int l3), some (.int (l4 + 1)), some (.int l5)] [] I J k := by
  refine (tt_f rfl).trans ?_
  refine (tt_in rfl rfl).trans ?_
  refine (tt_f rfl).trans ?_
  refine tt_go.trans ?_
  rfl
theorem B129_74 {l1 : Int32} {l2 : Int32} {l3 : Int32} {l4 : Int32} (hz : zrt 2 (.int 0) = true) : zd S 129 74 [some (.ref 76), some (.int l1), some (.int l2), some (.int l3), some (.int l4), none] [] I J k = some ((some (.int 0)), mk I J, k) := by
  refine (tt_f rfl).trans ?_
  refine tt_c.trans ?_
  exact tt_r1 rfl hz
/-! 130: EditionGridModel.findWhole -/
theorem B130_0 {l1 : Int32} {l2 : Int32} {l3 : Int32} {l4 : Int32} {l5 : Int32} {l6 : Int32}  : zd S 130 0 [some (.ref 76), some (.int l1), some (.int l2), some (.int l3), some (.int l4), some (.int l5), some (.int l6), none, none, none] [] I J k = zd S 130 3 [some (.ref 76), some (.int l1), some (.int l2), some (.int l3), some (.int l4), some (.int l5), some (.int l6), some (.int 1), none, none] [] I J k := by
  refine (tt_f rfl).trans ?_
  refine tt_c.trans ?_
  refine (tt_f rfl).trans ?_
  refine (tt_is rfl rfl).trans ?_
  rfl
theorem B130_3 {l1 : Int32} {l2 : Int32} {l3 : Int32} {l4 : Int32} {l5 : Int32} {l6 : Int32} {l7 : Int32}  : zd S 130 3 [some (.ref 76), some (.int l1), some (.int l2), some (.int l3), some (.int l4), some (.int l5), some (.int l6), some (.int l7), none, none] [] I J k = if (I 76 0) < l7 then zd S 130 114 [some (.ref 76), some (.int l1), some (.int l2), some (.int l3), some (.int l4), some (.int l5), some (.int l6), some (.int l7), none, none] [] I J k else zd S 130 12 [some (.ref 76), some (.int l1), some (.int l2), some (.int l3), some (.int l4), some (.int l5), some (.int l6), some (.int l7), none, none] [] I J k := by
  refine (tt_fk rfl rfl).trans ?_
  refine (tt_il rfl).trans ?_
  refine (tt_f rfl).trans ?_
  refine (tt_al rfl).trans ?_
  refine (tt_f rfl).trans ?_
  refine (tt_gi rfl rfl).trans ?_
  refine (tt_f rfl).trans ?_
  exact tt_f2 (p := fun x y => y < x) inferInstance rfl
theorem B130_12 {l1 : Int32} {l2 : Int32} {l3 : Int32} {l4 : Int32} {l5 : Int32} {l6 : Int32} {l7 : Int32} (hi1 : zin l7 5 = true) : zd S 130 12 [some (.ref 76), some (.int l1), some (.int l2), some (.int l3), some (.int l4), some (.int l5), some (.int l6), some (.int l7), none, none] [] I J k = zd S 130 20 [some (.ref 76), some (.int l1), some (.int l2), some (.int l3), some (.int l4), some (.int l5), some (.int l6), some (.int l7), none, none] [] (u2 I 109 l7.toNatClampNeg 0) J k := by
  refine (tt_f rfl).trans ?_
  refine (tt_al rfl).trans ?_
  refine (tt_f rfl).trans ?_
  refine (tt_gr rfl rfl).trans ?_
  refine (tt_f rfl).trans ?_
  refine (tt_il rfl).trans ?_
  refine (tt_f rfl).trans ?_
  refine tt_c.trans ?_
  refine (tt_f rfl).trans ?_
  exact tt_pa rfl rfl hi1
theorem B130_20 {l1 : Int32} {l2 : Int32} {l3 : Int32} {l4 : Int32} {l5 : Int32} {l6 : Int32} {l7 : Int32}  : zd S 130 20 [some (.ref 76), some (.int l1), some (.int l2), some (.int l3), some (.int l4), some (.int l5), some (.int l6), some (.int l7), none, none] [] I J k = zd S 130 28 [some (.ref 76), some (.int l1), some (.int l2), some (.int l3), some (.int l4), some (.int l5), some (.int l6), some (.int l7), some (.int ((I 76 1) - 1)), none] [] I J k := by
  refine (tt_f rfl).trans ?_
  refine (tt_al rfl).trans ?_
  refine (tt_f rfl).trans ?_
  refine (tt_gi rfl rfl).trans ?_
  refine (tt_f rfl).trans ?_
  refine tt_c.trans ?_
  refine (tt_f rfl).trans ?_
  refine tt_bi.trans ?_
  refine (tt_f rfl).trans ?_
  refine (tt_is rfl rfl).trans ?_
  rfl
theorem B130_28 {l1 : Int32} {l2 : Int32} {l3 : Int32} {l4 : Int32} {l5 : Int32} {l6 : Int32} {l7 : Int32} {l8 : Int32}  : zd S 130 28 [some (.ref 76), some (.int l1), some (.int l2), some (.int l3), some (.int l4), some (.int l5), some (.int l6), some (.int l7), some (.int l8), none] [] I J k = if l8 < 1 then zd S 130 108 [some (.ref 76), some (.int l1), some (.int l2), some (.int l3), some (.int l4), some (.int l5), some (.int l6), some (.int l7), some (.int l8), none] [] I J k else zd S 130 34 [some (.ref 76), some (.int l1), some (.int l2), some (.int l3), some (.int l4), some (.int l5), some (.int l6), some (.int l7), some (.int l8), none] [] I J k := by
  refine (tt_fk rfl rfl).trans ?_
  refine (tt_il rfl).trans ?_
  refine (tt_f rfl).trans ?_
  refine tt_c.trans ?_
  refine (tt_f rfl).trans ?_
  exact tt_f2 (p := fun x y => x < y) inferInstance rfl
theorem B130_34 {l1 : Int32} {l2 : Int32} {l3 : Int32} {l4 : Int32} {l5 : Int32} {l6 : Int32} {l7 : Int32} {l8 : Int32}  : zd S 130 34 [some (.ref 76), some (.int l1), some (.int l2), some (.int l3), some (.int l4), some (.int l5), some (.int l6), some (.int l7), some (.int l8), none] [] I J k = if l7 < l4 then zd S 130 108 [some (.ref 76), some (.int l1), some (.int l2), some (.int l3), some (.int l4), some (.int l5), some (.int l6), some (.int l7), some (.int l8), none] [] I J k else zd S 130 41 [some (.ref 76), some (.int l1), some (.int l2), some (.int l3), some (.int l4), some (.int l5), some (.int l6), some (.int l7), some (.int l8), none] [] I J k := by
  refine (tt_f rfl).trans ?_
  refine (tt_il rfl).trans ?_
  refine (tt_f rfl).trans ?_
  refine (tt_il rfl).trans ?_
  refine (tt_f rfl).trans ?_
  exact tt_f2 (p := fun x y => y < x) inferInstance rfl
theorem B130_41 {l1 : Int32} {l2 : Int32} {l3 : Int32} {l4 : Int32} {l5 : Int32} {l6 : Int32} {l7 : Int32} {l8 : Int32} {v1 : Int32} {I2 : zI} {J3 : zJ} (hb : Nat.ble k.1 (mBu 130).1 = true ∧ Nat.ble k.2 (mBu 130).2 = true) (hq : zq S 126 [.ref 76, .int l7, .int l8, .int l4, .int l5, .int 0] I J (some (.int v1)) I2 J3) : zd S 130 41 [some (.ref 76), some (.int l1), some (.int l2), some (.int l3), some (.int l4), some (.int l5), some (.int l6), some (.int l7), some (.int l8), none] [] I J k = zd S 130 54 [some (.ref 76), some (.int l1), some (.int l2), some (.int l3), some (.int l4), some (.int l5), some (.int l6), some (.int l7), some (.int l8), none] [.int v1] I2 J3 k := by
  refine (tt_f rfl).trans ?_
  refine (tt_al rfl).trans ?_
  refine (tt_f rfl).trans ?_
  refine (tt_il rfl).trans ?_
  refine (tt_f rfl).trans ?_
  refine (tt_il rfl).trans ?_
  refine (tt_f rfl).trans ?_
  refine (tt_il rfl).trans ?_
  refine (tt_f rfl).trans ?_
  refine (tt_il rfl).trans ?_
  refine (tt_f rfl).trans ?_
  refine tt_c.trans ?_
  exact tt_cv (As := [.int l7, .int l8, .int l4, .int l5, .int 0]) rfl hb.1 hb.2 rfl rfl rfl rfl rfl hq
theorem B130_54 {l1 : Int32} {l2 : Int32} {l3 : Int32} {l4 : Int32} {l5 : Int32} {l6 : Int32} {l7 : Int32} {l8 : Int32} {t0 : Int32}  : zd S 130 54 [some (.ref 76), some (.int l1), some (.int l2), some (.int l3), some (.int l4), some (.int l5), some (.int l6), some (.int l7), some (.int l8), none] [.int t0] I J k = if t0 = 0 then zd S 130 73 [some (.ref 76), some (.int l1), some (.int l2), some (.int l3), some (.int l4), some (.int l5), some (.int l6), some (.int l7), some (.int l8), none] [] I J k else zd S 130 57 [some (.ref 76), some (.int l1), some (.int l2), some (.int l3), some (.int l4), some (.int l5), some (.int l6), some (.int l7), some (.int l8), none] [] I J k := by
  refine (tt_f rfl).trans ?_
  exact tt_f1 (p := fun x => x = 0) inferInstance rfl
theorem B130_57 {l1 : Int32} {l2 : Int32} {l3 : Int32} {l4 : Int32} {l5 : Int32} {l6 : Int32} {l7 : Int32} {l8 : Int32} {v1 : Int32} {I2 : zI} {J3 : zJ} (hb : Nat.ble k.1 (mBu 130).1 = true ∧ Nat.ble k.2 (mBu 130).2 = true) (hq : zq S 127 [.ref 76, .int l1, .int l2, .int l3, .int l7] I J (some (.int v1)) I2 J3) : zd S 130 57 [some (.ref 76), some (.int l1), some (.int l2), some (.int l3), some (.int l4), some (.int l5), some (.int l6), some (.int l7), some (.int l8), none] [] I J k = zd S 130 66 [some (.ref 76), some (.int l1), some (.int l2), some (.int l3), some (.int l4), some (.int l5), some (.int l6), some (.int l7), some (.int l8), none] [.int v1] I2 J3 k := by
  refine (tt_f rfl).trans ?_
  refine (tt_al rfl).trans ?_
  refine (tt_f rfl).trans ?_
  refine (tt_il rfl).trans ?_
  refine (tt_f rfl).trans ?_
  refine (tt_il rfl).trans ?_
  refine (tt_f rfl).trans ?_
  refine (tt_il rfl).trans ?_
  refine (tt_f rfl).trans ?_
  refine (tt_il rfl).trans ?_
  exact tt_cv (As := [.int l1, .int l2, .int l3, .int l7]) rfl hb.1 hb.2 rfl rfl rfl rfl rfl hq
theorem B130_66 {l1 : Int32} {l2 : Int32} {l3 : Int32} {l4 : Int32} {l5 : Int32} {l6 : Int32} {l7 : Int32} {l8 : Int32} {t0 : Int32}  : zd S 130 66 [some (.ref 76), some (.int l1), some (.int l2), some (.int l3), some (.int l4), some (.int l5), some (.int l6), some (.int l7), some (.int l8), none] [.int t0] I J k = if t0 = 0 then zd S 130 73 [some (.ref 76), some (.int l1), some (.int l2), some (.int l3), some (.int l4), some (.int l5), some (.int l6), some (.int l7), some (.int l8), none] [] I J k else zd S 130 69 [some (.ref 76), some (.int l1), some (.int l2), some (.int l3), some (.int l4), some (.int l5), some (.int l6), some (.int l7), some (.int l8), none] [] I J k := by
  refine (tt_f rfl).trans ?_
  exact tt_f1 (p := fun x => x = 0) inferInstance rfl
theorem B130_69 {l1 : Int32} {l2 : Int32} {l3 : Int32} {l4 : Int32} {l5 : Int32} {l6 : Int32} {l7 : Int32} {l8 : Int32}  : zd S 130 69 [some (.ref 76), some (.int l1), some (.int l2), some (.int l3), some (.int l4), some (.int l5), some (.int l6), some (.int l7), some (.int l8), none] [] I J k = if 1 = 0 then zd S 130 94 [some (.ref 76), some (.int l1), some (.int l2), some (.int l3), some (.int l4), some (.int l5), some (.int l6), some (.int l7), some (.int l8), some (.int 1)] [.int l7, .ref 109] I J k else zd S 130 87 [some (.ref 76), some (.int l1), some (.int l2), some (.int l3), some (.int l4), some (.int l5), some (.int l6), some (.int l7), some (.int l8), some (.int 1)] [.int l7, .ref 109] I J k := by
  refine (tt_f rfl).trans ?_
  refine tt_c.trans ?_
  refine (tt_f rfl).trans ?_
  refine tt_go.trans ?_
  refine (tt_fk rfl rfl).trans ?_
  refine (tt_is rfl rfl).trans ?_
  refine (tt_f rfl).trans ?_
  refine (tt_al rfl).trans ?_
  refine (tt_f rfl).trans ?_
  refine (tt_gr rfl rfl).trans ?_
  refine (tt_f rfl).trans ?_
  refine (tt_il rfl).trans ?_
  refine (tt_f rfl).trans ?_
  refine (tt_il rfl).trans ?_
  refine (tt_f rfl).trans ?_
  exact tt_f1 (p := fun x => x = 0) inferInstance rfl
theorem B130_73 {l1 : Int32} {l2 : Int32} {l3 : Int32} {l4 : Int32} {l5 : Int32} {l6 : Int32} {l7 : Int32} {l8 : Int32}  : zd S 130 73 [some (.ref 76), some (.int l1), some (.int l2), some (.int l3), some (.int l4), some (.int l5), some (.int l6), some (.int l7), some (.int l8), none] [] I J k = if 0 = 0 then zd S 130 94 [some (.ref 76), some (.int l1), some (.int l2), some (.int l3), some (.int l4), some (.int l5), some (.int l6), some (.int l7), some (.int l8), some (.int 0)] [.int l7, .ref 109] I J k else zd S 130 87 [some (.ref 76), some (.int l1), some (.int l2), some (.int l3), some (.int l4), some (.int l5), some (.int l6), some (.int l7), some (.int l8), some (.int 0)] [.int l7, .ref 109] I J k := by
  refine (tt_fk rfl rfl).trans ?_
  refine tt_c.trans ?_
  refine (tt_fk rfl rfl).trans ?_
  refine (tt_is rfl rfl).trans ?_
  refine (tt_f rfl).trans ?_
  refine (tt_al rfl).trans ?_
  refine (tt_f rfl).trans ?_
  refine (tt_gr rfl rfl).trans ?_
  refine (tt_f rfl).trans ?_
  refine (tt_il rfl).trans ?_
  refine (tt_f rfl).trans ?_
  refine (tt_il rfl).trans ?_
  refine (tt_f rfl).trans ?_
  exact tt_f1 (p := fun x => x = 0) inferInstance rfl
theorem B130_87 {l1 : Int32} {l2 : Int32} {l3 : Int32} {l4 : Int32} {l5 : Int32} {l6 : Int32} {l7 : Int32} {l8 : Int32} {l9 : Int32} {t1 : Int32} (hi1 : zin t1 5 = true) : zd S 130 87 [some (.ref 76), some (.int l1), some (.int l2), some (.int l3), some (.int l4), some (.int l5), some (.int l6), some (.int l7), some (.int l8), some (.int l9)] [.int t1, .ref 109] I J k = zd S 130 102 [some (.ref 76), some (.int l1), some (.int l2), some (.int l3), some (.int l4), some (.int l5), some (.int l6), some (.int l7), some (.int l8), none] [] (u2 I 109 t1.toNatClampNeg (l8 + 1)) J k := by
  refine (tt_f rfl).trans ?_
  refine (tt_il rfl).trans ?_
  refine (tt_f rfl).trans ?_
  refine tt_c.trans ?_
  refine (tt_f rfl).trans ?_
  refine tt_bi.trans ?_
  refine (tt_f rfl).trans ?_
  refine tt_go.trans ?_
  refine (tt_fk rfl rfl).trans ?_
  exact tt_pa rfl rfl hi1
theorem B130_94 {l1 : Int32} {l2 : Int32} {l3 : Int32} {l4 : Int32} {l5 : Int32} {l6 : Int32} {l7 : Int32} {l8 : Int32} {l9 : Int32} {t1 : Int32} (hi1 : zin l7 5 = true) (hi2 : zin t1 5 = true) : zd S 130 94 [some (.ref 76), some (.int l1), some (.int l2), some (.int l3), some (.int l4), some (.int l5), some (.int l6), some (.int l7), some (.int l8), some (.int l9)] [.int t1, .ref 109] I J k = zd S 130 102 [some (.ref 76), some (.int l1), some (.int l2), some (.int l3), some (.int l4), some (.int l5), some (.int l6), some (.int l7), some (.int l8), none] [] (u2 I 109 t1.toNatClampNeg (I 109 l7.toNatClampNeg)) J k := by
  refine (tt_f rfl).trans ?_
  refine (tt_al rfl).trans ?_
  refine (tt_f rfl).trans ?_
  refine (tt_gr rfl rfl).trans ?_
  refine (tt_f rfl).trans ?_
  refine (tt_il rfl).trans ?_
  refine (tt_f rfl).trans ?_
  refine (tt_ga rfl rfl hi1).trans ?_
  refine (tt_fk rfl rfl).trans ?_
  exact tt_pa rfl rfl hi2
theorem B130_102 {l1 : Int32} {l2 : Int32} {l3 : Int32} {l4 : Int32} {l5 : Int32} {l6 : Int32} {l7 : Int32} {l8 : Int32}  : zd S 130 102 [some (.ref 76), some (.int l1), some (.int l2), some (.int l3), some (.int l4), some (.int l5), some (.int l6), some (.int l7), some (.int l8), none] [] I J k = zd S 130 28 [some (.ref 76), some (.int l1), some (.int l2), some (.int l3), some (.int l4), some (.int l5), some (.int l6), some (.int l7), some (.int (l8 + (-1))), none] [] I J k := by
  refine (tt_f rfl).trans ?_
  refine (tt_in rfl rfl).trans ?_
  refine (tt_f rfl).trans ?_
  refine tt_go.trans ?_
  rfl
theorem B130_108 {l1 : Int32} {l2 : Int32} {l3 : Int32} {l4 : Int32} {l5 : Int32} {l6 : Int32} {l7 : Int32} {l8 : Int32}  : zd S 130 108 [some (.ref 76), some (.int l1), some (.int l2), some (.int l3), some (.int l4), some (.int l5), some (.int l6), some (.int l7), some (.int l8), none] [] I J k = zd S 130 3 [some (.ref 76), some (.int l1), some (.int l2), some (.int l3), some (.int l4), some (.int l5), some (.int l6), some (.int (l7 + 1)), none, none] [] I J k := by
  refine (tt_fk rfl rfl).trans ?_
  refine (tt_in rfl rfl).trans ?_
  refine (tt_f rfl).trans ?_
  refine tt_go.trans ?_
  rfl
theorem B130_114 {l1 : Int32} {l2 : Int32} {l3 : Int32} {l4 : Int32} {l5 : Int32} {l6 : Int32} {l7 : Int32}  : zd S 130 114 [some (.ref 76), some (.int l1), some (.int l2), some (.int l3), some (.int l4), some (.int l5), some (.int l6), some (.int l7), none, none] [] I J k = zd S 130 118 [some (.ref 76), some (.int l1), some (.int l2), some (.int l3), some (.int l4), some (.int l5), some (.int l6), some (.int l6), none, none] [] I J k := by
  refine (tt_f rfl).trans ?_
  refine (tt_il rfl).trans ?_
  refine (tt_f rfl).trans ?_
  refine (tt_is rfl rfl).trans ?_
  rfl
theorem B130_118 {o1 : Option Value} {o2 : Option Value} {o3 : Option Value} {o4 : Option Value} {o5 : Option Value} {o6 : Option Value} {l7 : Int32} {o8 : Option Value}  : zd S 130 118 [some (.ref 76), o1, o2, o3, o4, o5, o6, some (.int l7), o8, none] [] I J k = if 3 ≤ l7 then zd S 130 178 [some (.ref 76), none, none, none, none, none, none, some (.int l7), none, none] [] I J k else zd S 130 124 [some (.ref 76), none, none, none, none, none, none, some (.int l7), none, none] [] I J k := by
  refine (tt_fk rfl rfl).trans ?_
  refine (tt_il rfl).trans ?_
  refine (tt_f rfl).trans ?_
  refine tt_c.trans ?_
  refine (tt_f rfl).trans ?_
  exact tt_f2 (p := fun x y => y ≤ x) inferInstance rfl
theorem B130_124 {l7 : Int32}  : zd S 130 124 [some (.ref 76), none, none, none, none, none, none, some (.int l7), none, none] [] I J k = zd S 130 130 [some (.ref 76), none, none, none, none, none, none, some (.int l7), some (.int (I 76 0)), none] [] I J k := by
  refine (tt_f rfl).trans ?_
  refine (tt_al rfl).trans ?_
  refine (tt_f rfl).trans ?_
  refine (tt_gi rfl rfl).trans ?_
  refine (tt_f rfl).trans ?_
  refine (tt_is rfl rfl).trans ?_
  rfl
theorem B130_130 {l7 : Int32} {l8 : Int32}  : zd S 130 130 [some (.ref 76), none, none, none, none, none, none, some (.int l7), some (.int l8), none] [] I J k = if l8 < 1 then zd S 130 172 [some (.ref 76), none, none, none, none, none, none, some (.int l7), some (.int l8), none] [] I J k else zd S 130 136 [some (.ref 76), none, none, none, none, none, none, some (.int l7), some (.int l8), none] [] I J k := by
  refine (tt_fk rfl rfl).trans ?_
  refine (tt_il rfl).trans ?_
  refine (tt_f rfl).trans ?_
  refine tt_c.trans ?_
  refine (tt_f rfl).trans ?_
  exact tt_f2 (p := fun x y => x < y) inferInstance rfl
theorem B130_136 {l7 : Int32} {l8 : Int32} (hi1 : zin l8 5 = true) : zd S 130 136 [some (.ref 76), none, none, none, none, none, none, some (.int l7), some (.int l8), none] [] I J k = if (I 109 l8.toNatClampNeg) ≤ 0 then zd S 130 166 [some (.ref 76), none, none, none, none, none, none, some (.int l7), some (.int l8), none] [] I J k else zd S 130 146 [some (.ref 76), none, none, none, none, none, none, some (.int l7), some (.int l8), none] [] I J k := by
  refine (tt_f rfl).trans ?_
  refine (tt_al rfl).trans ?_
  refine (tt_f rfl).trans ?_
  refine (tt_gr rfl rfl).trans ?_
  refine (tt_f rfl).trans ?_
  refine (tt_il rfl).trans ?_
  refine (tt_f rfl).trans ?_
  refine (tt_ga rfl rfl hi1).trans ?_
  refine (tt_f rfl).trans ?_
  exact tt_f1 (p := fun x => x ≤ 0) inferInstance rfl
theorem B130_146 {l7 : Int32} {l8 : Int32} {v2 : Int32} {I3 : zI} {J4 : zJ} (hb : Nat.ble k.1 (mBu 130).1 = true ∧ Nat.ble k.2 (mBu 130).2 = true) (hi1 : zin l8 5 = true) (hq : zq S 129 [.ref 76, .int l7, .int l8, .int (I 109 l8.toNatClampNeg)] I J (some (.int v2)) I3 J4) : zd S 130 146 [some (.ref 76), none, none, none, none, none, none, some (.int l7), some (.int l8), none] [] I J k = zd S 130 161 [some (.ref 76), none, none, none, none, none, none, some (.int l7), some (.int l8), none] [.int v2] I3 J4 k := by
  refine (tt_f rfl).trans ?_
  refine (tt_al rfl).trans ?_
  refine (tt_f rfl).trans ?_
  refine (tt_il rfl).trans ?_
  refine (tt_f rfl).trans ?_
  refine (tt_il rfl).trans ?_
  refine (tt_f rfl).trans ?_
  refine (tt_al rfl).trans ?_
  refine (tt_f rfl).trans ?_
  refine (tt_gr rfl rfl).trans ?_
  refine (tt_f rfl).trans ?_
  refine (tt_il rfl).trans ?_
  refine (tt_f rfl).trans ?_
  refine (tt_ga rfl rfl hi1).trans ?_
  exact tt_cv (As := [.int l7, .int l8, .int (I 109 l8.toNatClampNeg)]) rfl hb.1 hb.2 rfl rfl rfl rfl rfl hq
theorem B130_161 {l7 : Int32} {l8 : Int32} {t0 : Int32}  : zd S 130 161 [some (.ref 76), none, none, none, none, none, none, some (.int l7), some (.int l8), none] [.int t0] I J k = if t0 = 0 then zd S 130 166 [some (.ref 76), none, none, none, none, none, none, some (.int l7), some (.int l8), none] [] I J k else zd S 130 164 [some (.ref 76), none, none, none, none, none, none, some (.int l7), some (.int l8), none] [] I J k := by
  refine (tt_f rfl).trans ?_
  exact tt_f1 (p := fun x => x = 0) inferInstance rfl
theorem B130_164 {l7 : Int32} {l8 : Int32} (hz : zrt 2 (.int 1) = true) : zd S 130 164 [some (.ref 76), none, none, none, none, none, none, some (.int l7), some (.int l8), none] [] I J k = some ((some (.int 1)), mk I J, k) := by
  refine (tt_f rfl).trans ?_
  refine tt_c.trans ?_
  exact tt_r1 rfl hz
theorem B130_166 {l7 : Int32} {l8 : Int32}  : zd S 130 166 [some (.ref 76), none, none, none, none, none, none, some (.int l7), some (.int l8), none] [] I J k = zd S 130 130 [some (.ref 76), none, none, none, none, none, none, some (.int l7), some (.int (l8 + (-1))), none] [] I J k := by
  refine (tt_fk rfl rfl).trans ?_
  refine (tt_in rfl rfl).trans ?_
  refine (tt_f rfl).trans ?_
  refine tt_go.trans ?_
  rfl
theorem B130_172 {l7 : Int32} {l8 : Int32}  : zd S 130 172 [some (.ref 76), none, none, none, none, none, none, some (.int l7), some (.int l8), none] [] I J k = zd S 130 118 [some (.ref 76), none, none, none, none, none, none, some (.int (l7 + 1)), some (.int l8), none] [] I J k := by
  refine (tt_f rfl).trans ?_
  refine (tt_in rfl rfl).trans ?_
  refine (tt_f rfl).trans ?_
  refine tt_go.trans ?_
  rfl
theorem B130_178 {l7 : Int32} (hz : zrt 2 (.int 0) = true) : zd S 130 178 [some (.ref 76), none, none, none, none, none, none, some (.int l7), none, none] [] I J k = some ((some (.int 0)), mk I J, k) := by
  refine (tt_f rfl).trans ?_
  refine tt_c.trans ?_
  exact tt_r1 rfl hz
/-! 131: EditionGridModel.tell -/
theorem B131_0 {l1 : Int32} {l2 : Int32} {l3 : Int32} {l4 : Int32} {l5 : Int32} (hi1 : zin ((2 * l1) + l2) 8 = true) : zd S 131 0 [some (.ref 76), some (.int l1), some (.int l2), some (.int l3), some (.int l4), some (.int l5), none, none] [] I J k = zd S 131 15 [some (.ref 76), some (.int l1), some (.int l2), some (.int l3), some (.int l4), some (.int l5), some (.int ((2 * l1) + l2)), none] [] (u2 I 103 ((2 * l1) + l2).toNatClampNeg (vp_nar .boolean 1)) J k := by
  refine (tt_f rfl).trans ?_
  refine tt_c.trans ?_
  refine (tt_f rfl).trans ?_
  refine (tt_il rfl).trans ?_
  refine (tt_f rfl).trans ?_
  refine tt_bi.trans ?_
  refine (tt_f rfl).trans ?_
  refine (tt_il rfl).trans ?_
  refine (tt_f rfl).trans ?_
  refine tt_bi.trans ?_
  refine (tt_f rfl).trans ?_
  refine (tt_is rfl rfl).trans ?_
  refine (tt_f rfl).trans ?_
  refine (tt_al rfl).trans ?_
  refine (tt_f rfl).trans ?_
  refine (tt_gr rfl rfl).trans ?_
  refine (tt_f rfl).trans ?_
  refine (tt_il rfl).trans ?_
  refine (tt_f rfl).trans ?_
  refine tt_c.trans ?_
  refine (tt_f rfl).trans ?_
  exact tt_pa rfl rfl hi1
theorem B131_15 {l1 : Int32} {l2 : Int32} {l3 : Int32} {l4 : Int32} {l5 : Int32} {l6 : Int32} (hi1 : zin (11 * l6) 88 = true) : zd S 131 15 [some (.ref 76), some (.int l1), some (.int l2), some (.int l3), some (.int l4), some (.int l5), some (.int l6), none] [] I J k = zd S 131 29 [some (.ref 76), some (.int l1), some (.int l2), some (.int l3), some (.int l4), some (.int l5), some (.int l6), none] [] (u2 I 104 (11 * l6).toNatClampNeg (I 76 42)) J k := by
  refine (tt_f rfl).trans ?_
  refine (tt_al rfl).trans ?_
  refine (tt_f rfl).trans ?_
  refine (tt_gr rfl rfl).trans ?_
  refine (tt_f rfl).trans ?_
  refine tt_c.trans ?_
  refine (tt_f rfl).trans ?_
  refine (tt_il rfl).trans ?_
  refine (tt_f rfl).trans ?_
  refine tt_bi.trans ?_
  refine (tt_f rfl).trans ?_
  refine (tt_al rfl).trans ?_
  refine (tt_f rfl).trans ?_
  refine (tt_gi rfl rfl).trans ?_
  refine (tt_f rfl).trans ?_
  exact tt_pa rfl rfl hi1
theorem B131_29 {l1 : Int32} {l2 : Int32} {l3 : Int32} {l4 : Int32} {l5 : Int32} {l6 : Int32} (hi1 : zin ((11 * l6) + 1) 88 = true) : zd S 131 29 [some (.ref 76), some (.int l1), some (.int l2), some (.int l3), some (.int l4), some (.int l5), some (.int l6), none] [] I J k = zd S 131 45 [some (.ref 76), some (.int l1), some (.int l2), some (.int l3), some (.int l4), some (.int l5), some (.int l6), none] [] (u2 I 104 ((11 * l6) + 1).toNatClampNeg (I 76 43)) J k := by
  refine (tt_f rfl).trans ?_
  refine (tt_al rfl).trans ?_
  refine (tt_f rfl).trans ?_
  refine (tt_gr rfl rfl).trans ?_
  refine (tt_f rfl).trans ?_
  refine tt_c.trans ?_
  refine (tt_f rfl).trans ?_
  refine (tt_il rfl).trans ?_
  refine (tt_f rfl).trans ?_
  refine tt_bi.trans ?_
  refine (tt_f rfl).trans ?_
  refine tt_c.trans ?_
  refine (tt_f rfl).trans ?_
  refine tt_bi.trans ?_
  refine (tt_f rfl).trans ?_
  refine (tt_al rfl).trans ?_
  refine (tt_f rfl).trans ?_
  refine (tt_gi rfl rfl).trans ?_
  refine (tt_f rfl).trans ?_
  exact tt_pa rfl rfl hi1
theorem B131_45 {l1 : Int32} {l2 : Int32} {l3 : Int32} {l4 : Int32} {l5 : Int32} {l6 : Int32} (hi1 : zin ((11 * l6) + 2) 88 = true) : zd S 131 45 [some (.ref 76), some (.int l1), some (.int l2), some (.int l3), some (.int l4), some (.int l5), some (.int l6), none] [] I J k = zd S 131 61 [some (.ref 76), some (.int l1), some (.int l2), some (.int l3), some (.int l4), some (.int l5), some (.int l6), none] [] (u2 I 104 ((11 * l6) + 2).toNatClampNeg (I 76 44)) J k := by
  refine (tt_f rfl).trans ?_
  refine (tt_al rfl).trans ?_
  refine (tt_f rfl).trans ?_
  refine (tt_gr rfl rfl).trans ?_
  refine (tt_f rfl).trans ?_
  refine tt_c.trans ?_
  refine (tt_f rfl).trans ?_
  refine (tt_il rfl).trans ?_
  refine (tt_f rfl).trans ?_
  refine tt_bi.trans ?_
  refine (tt_f rfl).trans ?_
  refine tt_c.trans ?_
  refine (tt_f rfl).trans ?_
  refine tt_bi.trans ?_
  refine (tt_f rfl).trans ?_
  refine (tt_al rfl).trans ?_
  refine (tt_f rfl).trans ?_
  refine (tt_gi rfl rfl).trans ?_
  refine (tt_f rfl).trans ?_
  exact tt_pa rfl rfl hi1
theorem B131_61 {l1 : Int32} {l2 : Int32} {l3 : Int32} {l4 : Int32} {l5 : Int32} {l6 : Int32} (hi1 : zin ((11 * l6) + 3) 88 = true) : zd S 131 61 [some (.ref 76), some (.int l1), some (.int l2), some (.int l3), some (.int l4), some (.int l5), some (.int l6), none] [] I J k = zd S 131 77 [some (.ref 76), some (.int l1), some (.int l2), some (.int l3), some (.int l4), some (.int l5), some (.int l6), none] [] (u2 I 104 ((11 * l6) + 3).toNatClampNeg (I 76 45)) J k := by
  refine (tt_f rfl).trans ?_
  refine (tt_al rfl).trans ?_
  refine (tt_f rfl).trans ?_
  refine (tt_gr rfl rfl).trans ?_
  refine (tt_f rfl).trans ?_
  refine tt_c.trans ?_
  refine (tt_f rfl).trans ?_
  refine (tt_il rfl).trans ?_
  refine (tt_f rfl).trans ?_
  refine tt_bi.trans ?_
  refine (tt_f rfl).trans ?_
  refine tt_c.trans ?_
  refine (tt_f rfl).trans ?_
  refine tt_bi.trans ?_
  refine (tt_f rfl).trans ?_
  refine (tt_al rfl).trans ?_
  refine (tt_f rfl).trans ?_
  refine (tt_gi rfl rfl).trans ?_
  refine (tt_f rfl).trans ?_
  exact tt_pa rfl rfl hi1
theorem B131_77 {l1 : Int32} {l2 : Int32} {l3 : Int32} {l4 : Int32} {l5 : Int32} {l6 : Int32} (hi1 : zin ((11 * l6) + 4) 88 = true) : zd S 131 77 [some (.ref 76), some (.int l1), some (.int l2), some (.int l3), some (.int l4), some (.int l5), some (.int l6), none] [] I J k = zd S 131 90 [some (.ref 76), some (.int l1), some (.int l2), some (.int l3), some (.int l4), some (.int l5), some (.int l6), none] [] (u2 I 104 ((11 * l6) + 4).toNatClampNeg l3) J k := by
  refine (tt_f rfl).trans ?_
  refine (tt_al rfl).trans ?_
  refine (tt_f rfl).trans ?_
  refine (tt_gr rfl rfl).trans ?_
  refine (tt_f rfl).trans ?_
  refine tt_c.trans ?_
  refine (tt_f rfl).trans ?_
  refine (tt_il rfl).trans ?_
  refine (tt_f rfl).trans ?_
  refine tt_bi.trans ?_
  refine (tt_f rfl).trans ?_
  refine tt_c.trans ?_
  refine (tt_f rfl).trans ?_
  refine tt_bi.trans ?_
  refine (tt_f rfl).trans ?_
  refine (tt_il rfl).trans ?_
  refine (tt_f rfl).trans ?_
  exact tt_pa rfl rfl hi1
theorem B131_90 {l1 : Int32} {l2 : Int32} {l3 : Int32} {l4 : Int32} {l5 : Int32} {l6 : Int32} (hi1 : zin ((11 * l6) + 5) 88 = true) : zd S 131 90 [some (.ref 76), some (.int l1), some (.int l2), some (.int l3), some (.int l4), some (.int l5), some (.int l6), none] [] I J k = zd S 131 104 [some (.ref 76), some (.int l1), some (.int l2), some (.int l3), some (.int l4), some (.int l5), some (.int l6), none] [] (u2 I 104 ((11 * l6) + 5).toNatClampNeg l4) J k := by
  refine (tt_f rfl).trans ?_
  refine (tt_al rfl).trans ?_
  refine (tt_f rfl).trans ?_
  refine (tt_gr rfl rfl).trans ?_
  refine (tt_f rfl).trans ?_
  refine tt_c.trans ?_
  refine (tt_f rfl).trans ?_
  refine (tt_il rfl).trans ?_
  refine (tt_f rfl).trans ?_
  refine tt_bi.trans ?_
  refine (tt_f rfl).trans ?_
  refine tt_c.trans ?_
  refine (tt_f rfl).trans ?_
  refine tt_bi.trans ?_
  refine (tt_f rfl).trans ?_
  refine (tt_il rfl).trans ?_
  refine (tt_f rfl).trans ?_
  exact tt_pa rfl rfl hi1
theorem B131_104 {l1 : Int32} {l2 : Int32} {l3 : Int32} {l4 : Int32} {l5 : Int32} {l6 : Int32} (hi1 : zin ((11 * l6) + 6) 88 = true) : zd S 131 104 [some (.ref 76), some (.int l1), some (.int l2), some (.int l3), some (.int l4), some (.int l5), some (.int l6), none] [] I J k = zd S 131 122 [some (.ref 76), some (.int l1), some (.int l2), some (.int l3), some (.int l4), some (.int l5), some (.int l6), none] [] (u2 I 104 ((11 * l6) + 6).toNatClampNeg (l5 - l4)) J k := by
  refine (tt_f rfl).trans ?_
  refine (tt_al rfl).trans ?_
  refine (tt_f rfl).trans ?_
  refine (tt_gr rfl rfl).trans ?_
  refine (tt_f rfl).trans ?_
  refine tt_c.trans ?_
  refine (tt_f rfl).trans ?_
  refine (tt_il rfl).trans ?_
  refine (tt_f rfl).trans ?_
  refine tt_bi.trans ?_
  refine (tt_f rfl).trans ?_
  refine tt_c.trans ?_
  refine (tt_f rfl).trans ?_
  refine tt_bi.trans ?_
  refine (tt_f rfl).trans ?_
  refine (tt_il rfl).trans ?_
  refine (tt_f rfl).trans ?_
  refine (tt_il rfl).trans ?_
  refine (tt_f rfl).trans ?_
  refine tt_bi.trans ?_
  refine (tt_f rfl).trans ?_
  exact tt_pa rfl rfl hi1
theorem B131_122 {l1 : Int32} {l2 : Int32} {l3 : Int32} {l4 : Int32} {l5 : Int32} {l6 : Int32}  : zd S 131 122 [some (.ref 76), some (.int l1), some (.int l2), some (.int l3), some (.int l4), some (.int l5), some (.int l6), none] [] I J k = zd S 131 125 [some (.ref 76), some (.int l1), some (.int l2), some (.int l3), some (.int l4), some (.int l5), some (.int l6), some (.int 0)] [] I J k := by
  refine (tt_f rfl).trans ?_
  refine tt_c.trans ?_
  refine (tt_f rfl).trans ?_
  refine (tt_is rfl rfl).trans ?_
  rfl
theorem B131_125 {o1 : Option Value} {o2 : Option Value} {o3 : Option Value} {o4 : Option Value} {o5 : Option Value} {l6 : Int32} {l7 : Int32}  : zd S 131 125 [some (.ref 76), o1, o2, o3, o4, o5, some (.int l6), some (.int l7)] [] I J k = if 4 ≤ l7 then zd S 131 173 [some (.ref 76), none, none, none, none, none, some (.int l6), some (.int l7)] [] I J k else zd S 131 131 [some (.ref 76), none, none, none, none, none, some (.int l6), some (.int l7)] [] I J k := by
  refine (tt_fk rfl rfl).trans ?_
  refine (tt_il rfl).trans ?_
  refine (tt_f rfl).trans ?_
  refine tt_c.trans ?_
  refine (tt_f rfl).trans ?_
  exact tt_f2 (p := fun x y => y ≤ x) inferInstance rfl
theorem B131_131 {l6 : Int32} {l7 : Int32}  : zd S 131 131 [some (.ref 76), none, none, none, none, none, some (.int l6), some (.int l7)] [] I J k = if (I 76 45) ≤ l7 then zd S 131 165 [some (.ref 76), none, none, none, none, none, some (.int l6), some (.int l7)] [.int (((11 * l6) + 7) + l7), .ref 104] I J k else zd S 131 155 [some (.ref 76), none, none, none, none, none, some (.int l6), some (.int l7)] [.int (((11 * l6) + 7) + l7), .ref 104] I J k := by
  refine (tt_f rfl).trans ?_
  refine (tt_al rfl).trans ?_
  refine (tt_f rfl).trans ?_
  refine (tt_gr rfl rfl).trans ?_
  refine (tt_f rfl).trans ?_
  refine tt_c.trans ?_
  refine (tt_f rfl).trans ?_
  refine (tt_il rfl).trans ?_
  refine (tt_f rfl).trans ?_
  refine tt_bi.trans ?_
  refine (tt_f rfl).trans ?_
  refine tt_c.trans ?_
  refine (tt_f rfl).trans ?_
  refine tt_bi.trans ?_
  refine (tt_f rfl).trans ?_
  refine (tt_il rfl).trans ?_
  refine (tt_f rfl).trans ?_
  refine tt_bi.trans ?_
  refine (tt_f rfl).trans ?_
  refine (tt_il rfl).trans ?_
  refine (tt_f rfl).trans ?_
  refine (tt_al rfl).trans ?_
  refine (tt_f rfl).trans ?_
  refine (tt_gi rfl rfl).trans ?_
  refine (tt_f rfl).trans ?_
  exact tt_f2 (p := fun x y => y ≤ x) inferInstance rfl
theorem B131_155 {l6 : Int32} {l7 : Int32} {t1 : Int32} (hi1 : zin l7 4 = true) (hi2 : zin t1 88 = true) : zd S 131 155 [some (.ref 76), none, none, none, none, none, some (.int l6), some (.int l7)] [.int t1, .ref 104] I J k = zd S 131 167 [some (.ref 76), none, none, none, none, none, some (.int l6), some (.int l7)] [] (u2 I 104 t1.toNatClampNeg (I 107 l7.toNatClampNeg)) J k := by
  refine (tt_f rfl).trans ?_
  refine (tt_al rfl).trans ?_
  refine (tt_f rfl).trans ?_
  refine (tt_gr rfl rfl).trans ?_
  refine (tt_f rfl).trans ?_
  refine (tt_il rfl).trans ?_
  refine (tt_f rfl).trans ?_
  refine (tt_ga rfl rfl hi1).trans ?_
  refine (tt_f rfl).trans ?_
  refine tt_go.trans ?_
  refine (tt_fk rfl rfl).trans ?_
  exact tt_pa rfl rfl hi2
theorem B131_165 {l6 : Int32} {l7 : Int32} {t1 : Int32} (hi1 : zin t1 88 = true) : zd S 131 165 [some (.ref 76), none, none, none, none, none, some (.int l6), some (.int l7)] [.int t1, .ref 104] I J k = zd S 131 167 [some (.ref 76), none, none, none, none, none, some (.int l6), some (.int l7)] [] (u2 I 104 t1.toNatClampNeg 0) J k := by
  refine (tt_f rfl).trans ?_
  refine tt_c.trans ?_
  refine (tt_fk rfl rfl).trans ?_
  exact tt_pa rfl rfl hi1
theorem B131_167 {l6 : Int32} {l7 : Int32}  : zd S 131 167 [some (.ref 76), none, none, none, none, none, some (.int l6), some (.int l7)] [] I J k = zd S 131 125 [some (.ref 76), none, none, none, none, none, some (.int l6), some (.int (l7 + 1))] [] I J k := by
  refine (tt_f rfl).trans ?_
  refine (tt_in rfl rfl).trans ?_
  refine (tt_f rfl).trans ?_
  refine tt_go.trans ?_
  rfl
theorem B131_173 {l6 : Int32} {l7 : Int32}  : zd S 131 173 [some (.ref 76), none, none, none, none, none, some (.int l6), some (.int l7)] [] I J k = some (none, mk I J, k) := by
  exact tt_rv rfl
/-! 132: EditionGridModel.takePlace -/
theorem B132_0 {l1 : Int32} {l2 : Int32} {l3 : Int32} {l4 : Int32} {l5 : Int32} {l6 : Int32} {l7 : Int32} {I1 : zI} {J2 : zJ} (hb : Nat.ble k.1 (mBu 132).1 = true ∧ Nat.ble k.2 (mBu 132).2 = true) (hq : zq S 131 [.ref 76, .int l1, .int l2, .int l3, .int l4, .int l5] I J none I1 J2) : zd S 132 0 [some (.ref 76), some (.int l1), some (.int l2), some (.int l3), some (.int l4), some (.int l5), some (.int l6), some (.int l7), none, none, none, none, none, none] [] I J k = zd S 132 11 [some (.ref 76), some (.int l1), some (.int l2), some (.int l3), some (.int l4), some (.int l5), some (.int l6), some (.int l7), none, none, none, none, none, none] [] I1 J2 k := by
  refine (tt_f rfl).trans ?_
  refine (tt_al rfl).trans ?_
  refine (tt_f rfl).trans ?_
  refine (tt_il rfl).trans ?_
  refine (tt_f rfl).trans ?_
  refine (tt_il rfl).trans ?_
  refine (tt_f rfl).trans ?_
  refine (tt_il rfl).trans ?_
  refine (tt_f rfl).trans ?_
  refine (tt_il rfl).trans ?_
  refine (tt_f rfl).trans ?_
  refine (tt_il rfl).trans ?_
  exact tt_cv (As := [.int l1, .int l2, .int l3, .int l4, .int l5]) rfl hb.1 hb.2 rfl rfl rfl rfl rfl hq
theorem B132_11 {l1 : Int32} {l2 : Int32} {l3 : Int32} {l4 : Int32} {l5 : Int32} {l6 : Int32} {l7 : Int32}  : zd S 132 11 [some (.ref 76), some (.int l1), some (.int l2), some (.int l3), some (.int l4), some (.int l5), some (.int l6), some (.int l7), none, none, none, none, none, none] [] I J k = zd S 132 26 [some (.ref 76), some (.int l1), some (.int l2), some (.int l3), some (.int l4), some (.int l5), some (.int l6), some (.int l7), some (.int (100 * (l1 + 1))), some (.int l4), some (.int 0), none, none, none] [] I J k := by
  refine (tt_f rfl).trans ?_
  refine tt_c.trans ?_
  refine (tt_f rfl).trans ?_
  refine (tt_il rfl).trans ?_
  refine (tt_f rfl).trans ?_
  refine tt_c.trans ?_
  refine (tt_f rfl).trans ?_
  refine tt_bi.trans ?_
  refine (tt_f rfl).trans ?_
  refine tt_bi.trans ?_
  refine (tt_f rfl).trans ?_
  refine (tt_is rfl rfl).trans ?_
  refine (tt_f rfl).trans ?_
  refine (tt_il rfl).trans ?_
  refine (tt_f rfl).trans ?_
  refine (tt_is rfl rfl).trans ?_
  refine (tt_f rfl).trans ?_
  refine tt_c.trans ?_
  refine (tt_f rfl).trans ?_
  refine (tt_is rfl rfl).trans ?_
  rfl
theorem B132_26 {o1 : Option Value} {l2 : Int32} {l3 : Int32} {o4 : Option Value} {o5 : Option Value} {l6 : Int32} {l7 : Int32} {l8 : Int32} {l9 : Int32} {l10 : Int32} {o11 : Option Value} {o12 : Option Value} {o13 : Option Value}  : zd S 132 26 [some (.ref 76), o1, some (.int l2), some (.int l3), o4, o5, some (.int l6), some (.int l7), some (.int l8), some (.int l9), some (.int l10), o11, o12, o13] [] I J k = if (I 76 45) ≤ l10 then zd S 132 206 [some (.ref 76), none, some (.int l2), some (.int l3), none, none, some (.int l6), some (.int l7), some (.int l8), some (.int l9), some (.int l10), none, none, none] [] I J k else zd S 132 35 [some (.ref 76), none, some (.int l2), some (.int l3), none, none, some (.int l6), some (.int l7), some (.int l8), some (.int l9), some (.int l10), none, none, none] [] I J k := by
  refine (tt_fk rfl rfl).trans ?_
  refine (tt_il rfl).trans ?_
  refine (tt_f rfl).trans ?_
  refine (tt_al rfl).trans ?_
  refine (tt_f rfl).trans ?_
  refine (tt_gi rfl rfl).trans ?_
  refine (tt_f rfl).trans ?_
  exact tt_f2 (p := fun x y => y ≤ x) inferInstance rfl
theorem B132_35 {l2 : Int32} {l3 : Int32} {l6 : Int32} {l7 : Int32} {l8 : Int32} {l9 : Int32} {l10 : Int32}  : zd S 132 35 [some (.ref 76), none, some (.int l2), some (.int l3), none, none, some (.int l6), some (.int l7), some (.int l8), some (.int l9), some (.int l10), none, none, none] [] I J k = if l6 ≤ l10 then zd S 132 72 [some (.ref 76), none, some (.int l2), some (.int l3), none, none, some (.int l6), some (.int l7), some (.int l8), some (.int l9), some (.int l10), some (.int (((64 * (I 76 42)) + (16 * ((I 76 43) + l10))) + (I 76 44))), none, none] [] I J k else zd S 132 67 [some (.ref 76), none, some (.int l2), some (.int l3), none, none, some (.int l6), some (.int l7), some (.int l8), some (.int l9), some (.int l10), some (.int (((64 * (I 76 42)) + (16 * ((I 76 43) + l10))) + (I 76 44))), none, none] [] I J k := by
  refine (tt_f rfl).trans ?_
  refine tt_c.trans ?_
  refine (tt_f rfl).trans ?_
  refine (tt_al rfl).trans ?_
  refine (tt_f rfl).trans ?_
  refine (tt_gi rfl rfl).trans ?_
  refine (tt_f rfl).trans ?_
  refine tt_bi.trans ?_
  refine (tt_f rfl).trans ?_
  refine tt_c.trans ?_
  refine (tt_f rfl).trans ?_
  refine (tt_al rfl).trans ?_
  refine (tt_f rfl).trans ?_
  refine (tt_gi rfl rfl).trans ?_
  refine (tt_f rfl).trans ?_
  refine (tt_il rfl).trans ?_
  refine (tt_f rfl).trans ?_
  refine tt_bi.trans ?_
  refine (tt_f rfl).trans ?_
  refine tt_bi.trans ?_
  refine (tt_f rfl).trans ?_
  refine tt_bi.trans ?_
  refine (tt_f rfl).trans ?_
  refine (tt_al rfl).trans ?_
  refine (tt_f rfl).trans ?_
  refine (tt_gi rfl rfl).trans ?_
  refine (tt_f rfl).trans ?_
  refine tt_bi.trans ?_
  refine (tt_f rfl).trans ?_
  refine (tt_is rfl rfl).trans ?_
  refine (tt_f rfl).trans ?_
  refine (tt_il rfl).trans ?_
  refine (tt_f rfl).trans ?_
  refine (tt_il rfl).trans ?_
  refine (tt_f rfl).trans ?_
  exact tt_f2 (p := fun x y => y ≤ x) inferInstance rfl
theorem B132_67 {l2 : Int32} {l3 : Int32} {l6 : Int32} {l7 : Int32} {l8 : Int32} {l9 : Int32} {l10 : Int32} {l11 : Int32}  : zd S 132 67 [some (.ref 76), none, some (.int l2), some (.int l3), none, none, some (.int l6), some (.int l7), some (.int l8), some (.int l9), some (.int l10), some (.int l11), none, none] [] I J k = zd S 132 78 [some (.ref 76), none, some (.int l2), some (.int l3), none, none, some (.int l6), some (.int l7), some (.int l8), some (.int l9), some (.int l10), some (.int l11), some (.int l7), some (.int 0)] [] I J k := by
  refine (tt_f rfl).trans ?_
  refine (tt_il rfl).trans ?_
  refine (tt_f rfl).trans ?_
  refine tt_go.trans ?_
  refine (tt_fk rfl rfl).trans ?_
  refine (tt_is rfl rfl).trans ?_
  refine (tt_f rfl).trans ?_
  refine tt_c.trans ?_
  refine (tt_f rfl).trans ?_
  refine (tt_is rfl rfl).trans ?_
  rfl
theorem B132_72 {l2 : Int32} {l3 : Int32} {l6 : Int32} {l7 : Int32} {l8 : Int32} {l9 : Int32} {l10 : Int32} {l11 : Int32}  : zd S 132 72 [some (.ref 76), none, some (.int l2), some (.int l3), none, none, some (.int l6), some (.int l7), some (.int l8), some (.int l9), some (.int l10), some (.int l11), none, none] [] I J k = zd S 132 78 [some (.ref 76), none, some (.int l2), some (.int l3), none, none, some (.int l6), some (.int l7), some (.int l8), some (.int l9), some (.int l10), some (.int l11), some (.int 0), some (.int 0)] [] I J k := by
  refine (tt_f rfl).trans ?_
  refine tt_c.trans ?_
  refine (tt_fk rfl rfl).trans ?_
  refine (tt_is rfl rfl).trans ?_
  refine (tt_f rfl).trans ?_
  refine tt_c.trans ?_
  refine (tt_f rfl).trans ?_
  refine (tt_is rfl rfl).trans ?_
  rfl
theorem B132_78 {l2 : Int32} {l3 : Int32} {l6 : Int32} {l7 : Int32} {l8 : Int32} {l9 : Int32} {l10 : Int32} {l11 : Int32} {l12 : Int32} {l13 : Int32}  : zd S 132 78 [some (.ref 76), none, some (.int l2), some (.int l3), none, none, some (.int l6), some (.int l7), some (.int l8), some (.int l9), some (.int l10), some (.int l11), some (.int l12), some (.int l13)] [] I J k = if l3 ≤ l13 then zd S 132 122 [some (.ref 76), none, some (.int l2), some (.int l3), none, none, some (.int l6), some (.int l7), some (.int l8), some (.int l9), some (.int l10), some (.int l11), some (.int l12), some (.int l13)] [] I J k else zd S 132 84 [some (.ref 76), none, some (.int l2), some (.int l3), none, none, some (.int l6), some (.int l7), some (.int l8), some (.int l9), some (.int l10), some (.int l11), some (.int l12), some (.int l13)] [] I J k := by
  refine (tt_fk rfl rfl).trans ?_
  refine (tt_il rfl).trans ?_
  refine (tt_f rfl).trans ?_
  refine (tt_il rfl).trans ?_
  refine (tt_f rfl).trans ?_
  exact tt_f2 (p := fun x y => y ≤ x) inferInstance rfl
theorem B132_84 {l2 : Int32} {l3 : Int32} {l6 : Int32} {l7 : Int32} {l8 : Int32} {l9 : Int32} {l10 : Int32} {l11 : Int32} {l12 : Int32} {l13 : Int32}  : zd S 132 84 [some (.ref 76), none, some (.int l2), some (.int l3), none, none, some (.int l6), some (.int l7), some (.int l8), some (.int l9), some (.int l10), some (.int l11), some (.int l12), some (.int l13)] [] I J k = if l13 ≤ 0 then zd S 132 113 [some (.ref 76), none, some (.int l2), some (.int l3), none, none, some (.int l6), some (.int l7), some (.int l8), some (.int l9), some (.int l10), some (.int l11), some (.int l12), some (.int l13)] [.int (l11 + l13), .ref 105] I J k else zd S 132 98 [some (.ref 76), none, some (.int l2), some (.int l3), none, none, some (.int l6), some (.int l7), some (.int l8), some (.int l9), some (.int l10), some (.int l11), some (.int l12), some (.int l13)] [.int (l11 + l13), .ref 105] I J k := by
  refine (tt_f rfl).trans ?_
  refine (tt_al rfl).trans ?_
  refine (tt_f rfl).trans ?_
  refine (tt_gr rfl rfl).trans ?_
  refine (tt_f rfl).trans ?_
  refine (tt_il rfl).trans ?_
  refine (tt_f rfl).trans ?_
  refine (tt_il rfl).trans ?_
  refine (tt_f rfl).trans ?_
  refine tt_bi.trans ?_
  refine (tt_f rfl).trans ?_
  refine (tt_il rfl).trans ?_
  refine (tt_f rfl).trans ?_
  exact tt_f1 (p := fun x => x ≤ 0) inferInstance rfl
theorem B132_98 {l2 : Int32} {l3 : Int32} {l6 : Int32} {l7 : Int32} {l8 : Int32} {l9 : Int32} {l10 : Int32} {l11 : Int32} {l12 : Int32} {l13 : Int32} {t1 : Int32}  : zd S 132 98 [some (.ref 76), none, some (.int l2), some (.int l3), none, none, some (.int l6), some (.int l7), some (.int l8), some (.int l9), some (.int l10), some (.int l11), some (.int l12), some (.int l13)] [.int t1, .ref 105] I J k = if l12 < l13 then zd S 132 113 [some (.ref 76), none, some (.int l2), some (.int l3), none, none, some (.int l6), some (.int l7), some (.int l8), some (.int l9), some (.int l10), some (.int l11), some (.int l12), some (.int l13)] [.int t1, .ref 105] I J k else zd S 132 105 [some (.ref 76), none, some (.int l2), some (.int l3), none, none, some (.int l6), some (.int l7), some (.int l8), some (.int l9), some (.int l10), some (.int l11), some (.int l12), some (.int l13)] [.int t1, .ref 105] I J k := by
  refine (tt_f rfl).trans ?_
  refine (tt_il rfl).trans ?_
  refine (tt_f rfl).trans ?_
  refine (tt_il rfl).trans ?_
  refine (tt_f rfl).trans ?_
  exact tt_f2 (p := fun x y => y < x) inferInstance rfl
theorem B132_105 {l2 : Int32} {l3 : Int32} {l6 : Int32} {l7 : Int32} {l8 : Int32} {l9 : Int32} {l10 : Int32} {l11 : Int32} {l12 : Int32} {l13 : Int32} {t1 : Int32} (hi1 : zin t1 192 = true) : zd S 132 105 [some (.ref 76), none, some (.int l2), some (.int l3), none, none, some (.int l6), some (.int l7), some (.int l8), some (.int l9), some (.int l10), some (.int l11), some (.int l12), some (.int l13)] [.int t1, .ref 105] I J k = zd S 132 116 [some (.ref 76), none, some (.int l2), some (.int l3), none, none, some (.int l6), some (.int l7), some (.int l8), some (.int l9), some (.int l10), some (.int l11), some (.int l12), some (.int l13)] [] (u2 I 105 t1.toNatClampNeg (l8 + 81)) J k := by
  refine (tt_f rfl).trans ?_
  refine (tt_il rfl).trans ?_
  refine (tt_f rfl).trans ?_
  refine tt_c.trans ?_
  refine (tt_f rfl).trans ?_
  refine tt_bi.trans ?_
  refine (tt_f rfl).trans ?_
  refine tt_go.trans ?_
  refine (tt_fk rfl rfl).trans ?_
  exact tt_pa rfl rfl hi1
theorem B132_113 {l2 : Int32} {l3 : Int32} {l6 : Int32} {l7 : Int32} {l8 : Int32} {l9 : Int32} {l10 : Int32} {l11 : Int32} {l12 : Int32} {l13 : Int32} {t1 : Int32} (hi1 : zin t1 192 = true) : zd S 132 113 [some (.ref 76), none, some (.int l2), some (.int l3), none, none, some (.int l6), some (.int l7), some (.int l8), some (.int l9), some (.int l10), some (.int l11), some (.int l12), some (.int l13)] [.int t1, .ref 105] I J k = zd S 132 116 [some (.ref 76), none, some (.int l2), some (.int l3), none, none, some (.int l6), some (.int l7), some (.int l8), some (.int l9), some (.int l10), some (.int l11), some (.int l12), some (.int l13)] [] (u2 I 105 t1.toNatClampNeg 90) J k := by
  refine (tt_fk rfl rfl).trans ?_
  refine tt_c.trans ?_
  refine (tt_fk rfl rfl).trans ?_
  exact tt_pa rfl rfl hi1
theorem B132_116 {l2 : Int32} {l3 : Int32} {l6 : Int32} {l7 : Int32} {l8 : Int32} {l9 : Int32} {l10 : Int32} {l11 : Int32} {l12 : Int32} {l13 : Int32}  : zd S 132 116 [some (.ref 76), none, some (.int l2), some (.int l3), none, none, some (.int l6), some (.int l7), some (.int l8), some (.int l9), some (.int l10), some (.int l11), some (.int l12), some (.int l13)] [] I J k = zd S 132 78 [some (.ref 76), none, some (.int l2), some (.int l3), none, none, some (.int l6), some (.int l7), some (.int l8), some (.int l9), some (.int l10), some (.int l11), some (.int l12), some (.int (l13 + 1))] [] I J k := by
  refine (tt_f rfl).trans ?_
  refine (tt_in rfl rfl).trans ?_
  refine (tt_f rfl).trans ?_
  refine tt_go.trans ?_
  rfl
theorem B132_122 {l2 : Int32} {l3 : Int32} {l6 : Int32} {l7 : Int32} {l8 : Int32} {l9 : Int32} {l10 : Int32} {l11 : Int32} {l12 : Int32} {l13 : Int32}  : zd S 132 122 [some (.ref 76), none, some (.int l2), some (.int l3), none, none, some (.int l6), some (.int l7), some (.int l8), some (.int l9), some (.int l10), some (.int l11), some (.int l12), some (.int l13)] [] I J k = if ¬ l2 = 0 then zd S 132 140 [some (.ref 76), none, some (.int l2), some (.int l3), none, none, some (.int l6), some (.int l7), some (.int l8), some (.int l9), some (.int l10), some (.int l11), some (.int l12), some (.int l13)] [.int l11, .ref 105] I J k else zd S 132 132 [some (.ref 76), none, some (.int l2), some (.int l3), none, none, some (.int l6), some (.int l7), some (.int l8), some (.int l9), some (.int l10), some (.int l11), some (.int l12), some (.int l13)] [.int l11, .ref 105] I J k := by
  refine (tt_f rfl).trans ?_
  refine (tt_al rfl).trans ?_
  refine (tt_f rfl).trans ?_
  refine (tt_gr rfl rfl).trans ?_
  refine (tt_f rfl).trans ?_
  refine (tt_il rfl).trans ?_
  refine (tt_f rfl).trans ?_
  refine (tt_il rfl).trans ?_
  refine (tt_f rfl).trans ?_
  exact tt_f1 (p := fun x => ¬ x = 0) inferInstance rfl
theorem B132_132 {l2 : Int32} {l3 : Int32} {l6 : Int32} {l7 : Int32} {l8 : Int32} {l9 : Int32} {l10 : Int32} {l11 : Int32} {l12 : Int32} {l13 : Int32} {t1 : Int32} (hi1 : zin t1 192 = true) : zd S 132 132 [some (.ref 76), none, some (.int l2), some (.int l3), none, none, some (.int l6), some (.int l7), some (.int l8), some (.int l9), some (.int l10), some (.int l11), some (.int l12), some (.int l13)] [.int t1, .ref 105] I J k = zd S 132 156 [some (.ref 76), none, some (.int l2), some (.int l3), none, none, some (.int l6), some (.int l7), some (.int l8), some (.int l9), some (.int l10), some (.int l11), some (.int l12), none] [] (u2 I 105 t1.toNatClampNeg (l8 + 80)) J k := by
  refine (tt_f rfl).trans ?_
  refine (tt_il rfl).trans ?_
  refine (tt_f rfl).trans ?_
  refine tt_c.trans ?_
  refine (tt_f rfl).trans ?_
  refine tt_bi.trans ?_
  refine (tt_f rfl).trans ?_
  refine tt_go.trans ?_
  refine (tt_fk rfl rfl).trans ?_
  exact tt_pa rfl rfl hi1
theorem B132_140 {l2 : Int32} {l3 : Int32} {l6 : Int32} {l7 : Int32} {l8 : Int32} {l9 : Int32} {l10 : Int32} {l11 : Int32} {l12 : Int32} {l13 : Int32} {t1 : Int32}  : zd S 132 140 [some (.ref 76), none, some (.int l2), some (.int l3), none, none, some (.int l6), some (.int l7), some (.int l8), some (.int l9), some (.int l10), some (.int l11), some (.int l12), some (.int l13)] [.int t1, .ref 105] I J k = if ¬ l10 = 0 then zd S 132 153 [some (.ref 76), none, some (.int l2), some (.int l3), none, none, some (.int l6), some (.int l7), some (.int l8), some (.int l9), some (.int l10), some (.int l11), some (.int l12), some (.int l13)] [.int t1, .ref 105] I J k else zd S 132 145 [some (.ref 76), none, some (.int l2), some (.int l3), none, none, some (.int l6), some (.int l7), some (.int l8), some (.int l9), some (.int l10), some (.int l11), some (.int l12), some (.int l13)] [.int t1, .ref 105] I J k := by
  refine (tt_f rfl).trans ?_
  refine (tt_il rfl).trans ?_
  refine (tt_f rfl).trans ?_
  exact tt_f1 (p := fun x => ¬ x = 0) inferInstance rfl
theorem B132_145 {l2 : Int32} {l3 : Int32} {l6 : Int32} {l7 : Int32} {l8 : Int32} {l9 : Int32} {l10 : Int32} {l11 : Int32} {l12 : Int32} {l13 : Int32} {t1 : Int32} (hi1 : zin t1 192 = true) : zd S 132 145 [some (.ref 76), none, some (.int l2), some (.int l3), none, none, some (.int l6), some (.int l7), some (.int l8), some (.int l9), some (.int l10), some (.int l11), some (.int l12), some (.int l13)] [.int t1, .ref 105] I J k = zd S 132 156 [some (.ref 76), none, some (.int l2), some (.int l3), none, none, some (.int l6), some (.int l7), some (.int l8), some (.int l9), some (.int l10), some (.int l11), some (.int l12), none] [] (u2 I 105 t1.toNatClampNeg (l8 + 83)) J k := by
  refine (tt_f rfl).trans ?_
  refine (tt_il rfl).trans ?_
  refine (tt_f rfl).trans ?_
  refine tt_c.trans ?_
  refine (tt_f rfl).trans ?_
  refine tt_bi.trans ?_
  refine (tt_f rfl).trans ?_
  refine tt_go.trans ?_
  refine (tt_fk rfl rfl).trans ?_
  exact tt_pa rfl rfl hi1
theorem B132_153 {l2 : Int32} {l3 : Int32} {l6 : Int32} {l7 : Int32} {l8 : Int32} {l9 : Int32} {l10 : Int32} {l11 : Int32} {l12 : Int32} {l13 : Int32} {t1 : Int32} (hi1 : zin t1 192 = true) : zd S 132 153 [some (.ref 76), none, some (.int l2), some (.int l3), none, none, some (.int l6), some (.int l7), some (.int l8), some (.int l9), some (.int l10), some (.int l11), some (.int l12), some (.int l13)] [.int t1, .ref 105] I J k = zd S 132 156 [some (.ref 76), none, some (.int l2), some (.int l3), none, none, some (.int l6), some (.int l7), some (.int l8), some (.int l9), some (.int l10), some (.int l11), some (.int l12), none] [] (u2 I 105 t1.toNatClampNeg 90) J k := by
  refine (tt_f rfl).trans ?_
  refine tt_c.trans ?_
  refine (tt_fk rfl rfl).trans ?_
  exact tt_pa rfl rfl hi1
theorem B132_156 {l2 : Int32} {l3 : Int32} {l6 : Int32} {l7 : Int32} {l8 : Int32} {l9 : Int32} {l10 : Int32} {l11 : Int32} {l12 : Int32}  : zd S 132 156 [some (.ref 76), none, some (.int l2), some (.int l3), none, none, some (.int l6), some (.int l7), some (.int l8), some (.int l9), some (.int l10), some (.int l11), some (.int l12), none] [] I J k = zd S 132 159 [some (.ref 76), none, some (.int l2), some (.int l3), none, none, some (.int l6), some (.int l7), some (.int l8), some (.int l9), some (.int l10), some (.int l11), some (.int l12), some (.int 0)] [] I J k := by
  refine (tt_f rfl).trans ?_
  refine tt_c.trans ?_
  refine (tt_f rfl).trans ?_
  refine (tt_is rfl rfl).trans ?_
  rfl
theorem B132_159 {l2 : Int32} {l3 : Int32} {l6 : Int32} {l7 : Int32} {l8 : Int32} {l9 : Int32} {l10 : Int32} {l11 : Int32} {l12 : Int32} {l13 : Int32} (hi1 : zin l10 4 = true) : zd S 132 159 [some (.ref 76), none, some (.int l2), some (.int l3), none, none, some (.int l6), some (.int l7), some (.int l8), some (.int l9), some (.int l10), some (.int l11), some (.int l12), some (.int l13)] [] I J k = if (I 107 l10.toNatClampNeg) ≤ l13 then zd S 132 200 [some (.ref 76), none, some (.int l2), some (.int l3), none, none, some (.int l6), some (.int l7), some (.int l8), some (.int l9), some (.int l10), some (.int l11), some (.int l12), some (.int l13)] [] I J k else zd S 132 171 [some (.ref 76), none, some (.int l2), some (.int l3), none, none, some (.int l6), some (.int l7), some (.int l8), some (.int l9), some (.int l10), some (.int l11), some (.int l12), some (.int l13)] [] I J k := by
  refine (tt_fk rfl rfl).trans ?_
  refine (tt_il rfl).trans ?_
  refine (tt_f rfl).trans ?_
  refine (tt_al rfl).trans ?_
  refine (tt_f rfl).trans ?_
  refine (tt_gr rfl rfl).trans ?_
  refine (tt_f rfl).trans ?_
  refine (tt_il rfl).trans ?_
  refine (tt_f rfl).trans ?_
  refine (tt_ga rfl rfl hi1).trans ?_
  refine (tt_f rfl).trans ?_
  exact tt_f2 (p := fun x y => y ≤ x) inferInstance rfl
theorem B132_171 {l2 : Int32} {l3 : Int32} {l6 : Int32} {l7 : Int32} {l8 : Int32} {l9 : Int32} {l10 : Int32} {l11 : Int32} {l12 : Int32} {l13 : Int32} (hi1 : zin (((l11 + 1) + l12) + l13) 192 = true) : zd S 132 171 [some (.ref 76), none, some (.int l2), some (.int l3), none, none, some (.int l6), some (.int l7), some (.int l8), some (.int l9), some (.int l10), some (.int l11), some (.int l12), some (.int l13)] [] I J k = zd S 132 191 [some (.ref 76), none, some (.int l2), some (.int l3), none, none, some (.int l6), some (.int l7), some (.int l8), some (.int l9), some (.int l10), some (.int l11), some (.int l12), some (.int l13)] [] (u2 I 105 (((l11 + 1) + l12) + l13).toNatClampNeg (l8 + l9)) J k := by
  refine (tt_f rfl).trans ?_
  refine (tt_al rfl).trans ?_
  refine (tt_f rfl).trans ?_
  refine (tt_gr rfl rfl).trans ?_
  refine (tt_f rfl).trans ?_
  refine (tt_il rfl).trans ?_
  refine (tt_f rfl).trans ?_
  refine tt_c.trans ?_
  refine (tt_f rfl).trans ?_
  refine tt_bi.trans ?_
  refine (tt_f rfl).trans ?_
  refine (tt_il rfl).trans ?_
  refine (tt_f rfl).trans ?_
  refine tt_bi.trans ?_
  refine (tt_f rfl).trans ?_
  refine (tt_il rfl).trans ?_
  refine (tt_f rfl).trans ?_
  refine tt_bi.trans ?_
  refine (tt_f rfl).trans ?_
  refine (tt_il rfl).trans ?_
  refine (tt_f rfl).trans ?_
  refine (tt_il rfl).trans ?_
  refine (tt_f rfl).trans ?_
  refine tt_bi.trans ?_
  refine (tt_f rfl).trans ?_
  exact tt_pa rfl rfl hi1
theorem B132_191 {l2 : Int32} {l3 : Int32} {l6 : Int32} {l7 : Int32} {l8 : Int32} {l9 : Int32} {l10 : Int32} {l11 : Int32} {l12 : Int32} {l13 : Int32}  : zd S 132 191 [some (.ref 76), none, some (.int l2), some (.int l3), none, none, some (.int l6), some (.int l7), some (.int l8), some (.int l9), some (.int l10), some (.int l11), some (.int l12), some (.int l13)] [] I J k = zd S 132 159 [some (.ref 76), none, some (.int l2), some (.int l3), none, none, some (.int l6), some (.int l7), some (.int l8), some (.int (l9 + 1)), some (.int l10), some (.int l11), some (.int l12), some (.int (l13 + 1))] [] I J k := by
  refine (tt_f rfl).trans ?_
  refine (tt_in rfl rfl).trans ?_
  refine (tt_f rfl).trans ?_
  refine (tt_in rfl rfl).trans ?_
  refine (tt_f rfl).trans ?_
  refine tt_go.trans ?_
  rfl
theorem B132_200 {l2 : Int32} {l3 : Int32} {l6 : Int32} {l7 : Int32} {l8 : Int32} {l9 : Int32} {l10 : Int32} {l11 : Int32} {l12 : Int32} {l13 : Int32}  : zd S 132 200 [some (.ref 76), none, some (.int l2), some (.int l3), none, none, some (.int l6), some (.int l7), some (.int l8), some (.int l9), some (.int l10), some (.int l11), some (.int l12), some (.int l13)] [] I J k = zd S 132 26 [some (.ref 76), none, some (.int l2), some (.int l3), none, none, some (.int l6), some (.int l7), some (.int l8), some (.int l9), some (.int (l10 + 1)), some (.int l11), some (.int l12), some (.int l13)] [] I J k := by
  refine (tt_f rfl).trans ?_
  refine (tt_in rfl rfl).trans ?_
  refine (tt_f rfl).trans ?_
  refine tt_go.trans ?_
  rfl
theorem B132_206 {l2 : Int32} {l3 : Int32} {l6 : Int32} {l7 : Int32} {l8 : Int32} {l9 : Int32} {l10 : Int32}  : zd S 132 206 [some (.ref 76), none, some (.int l2), some (.int l3), none, none, some (.int l6), some (.int l7), some (.int l8), some (.int l9), some (.int l10), none, none, none] [] I J k = some (none, mk I J, k) := by
  exact tt_rv rfl
/-! 133: EditionGridModel.freeRows -/
theorem B133_0 {l1 : Int32} {l2 : Int32} {l3 : Int32} {l4 : Int32}  : zd S 133 0 [some (.ref 76), some (.int l1), some (.int l2), some (.int l3), some (.int l4), none] [] I J k = zd S 133 3 [some (.ref 76), some (.int l1), some (.int l2), some (.int l3), some (.int l4), some (.int 0)] [] I J k := by
  refine (tt_f rfl).trans ?_
  refine tt_c.trans ?_
  refine (tt_f rfl).trans ?_
  refine (tt_is rfl rfl).trans ?_
  rfl
theorem B133_3 {l1 : Int32} {l2 : Int32} {l3 : Int32} {l4 : Int32} {l5 : Int32}  : zd S 133 3 [some (.ref 76), some (.int l1), some (.int l2), some (.int l3), some (.int l4), some (.int l5)] [] I J k = if (I 76 1) ≤ (l3 + l5) then zd S 133 36 [some (.ref 76), some (.int l1), some (.int l2), some (.int l3), some (.int l4), some (.int l5)] [] I J k else zd S 133 14 [some (.ref 76), some (.int l1), some (.int l2), some (.int l3), some (.int l4), some (.int l5)] [] I J k := by
  refine (tt_fk rfl rfl).trans ?_
  refine (tt_il rfl).trans ?_
  refine (tt_f rfl).trans ?_
  refine (tt_il rfl).trans ?_
  refine (tt_f rfl).trans ?_
  refine tt_bi.trans ?_
  refine (tt_f rfl).trans ?_
  refine (tt_al rfl).trans ?_
  refine (tt_f rfl).trans ?_
  refine (tt_gi rfl rfl).trans ?_
  refine (tt_f rfl).trans ?_
  exact tt_f2 (p := fun x y => y ≤ x) inferInstance rfl
theorem B133_14 {l1 : Int32} {l2 : Int32} {l3 : Int32} {l4 : Int32} {l5 : Int32} {v1 : Int32} {I2 : zI} {J3 : zJ} (hb : Nat.ble k.1 (mBu 133).1 = true ∧ Nat.ble k.2 (mBu 133).2 = true) (hq : zq S 128 [.ref 76, .int l1, .int l2, .int (l3 + l5), .int l4, .int 1] I J (some (.int v1)) I2 J3) : zd S 133 14 [some (.ref 76), some (.int l1), some (.int l2), some (.int l3), some (.int l4), some (.int l5)] [] I J k = zd S 133 27 [some (.ref 76), some (.int l1), some (.int l2), some (.int l3), some (.int l4), some (.int l5)] [.int v1] I2 J3 k := by
  refine (tt_f rfl).trans ?_
  refine (tt_al rfl).trans ?_
  refine (tt_f rfl).trans ?_
  refine (tt_il rfl).trans ?_
  refine (tt_f rfl).trans ?_
  refine (tt_il rfl).trans ?_
  refine (tt_f rfl).trans ?_
  refine (tt_il rfl).trans ?_
  refine (tt_f rfl).trans ?_
  refine (tt_il rfl).trans ?_
  refine (tt_f rfl).trans ?_
  refine tt_bi.trans ?_
  refine (tt_f rfl).trans ?_
  refine (tt_il rfl).trans ?_
  refine (tt_f rfl).trans ?_
  refine tt_c.trans ?_
  exact tt_cv (As := [.int l1, .int l2, .int (l3 + l5), .int l4, .int 1]) rfl hb.1 hb.2 rfl rfl rfl rfl rfl hq
theorem B133_27 {l1 : Int32} {l2 : Int32} {l3 : Int32} {l4 : Int32} {l5 : Int32} {t0 : Int32}  : zd S 133 27 [some (.ref 76), some (.int l1), some (.int l2), some (.int l3), some (.int l4), some (.int l5)] [.int t0] I J k = if t0 = 0 then zd S 133 36 [some (.ref 76), some (.int l1), some (.int l2), some (.int l3), some (.int l4), some (.int l5)] [] I J k else zd S 133 30 [some (.ref 76), some (.int l1), some (.int l2), some (.int l3), some (.int l4), some (.int l5)] [] I J k := by
  refine (tt_f rfl).trans ?_
  exact tt_f1 (p := fun x => x = 0) inferInstance rfl
theorem B133_30 {l1 : Int32} {l2 : Int32} {l3 : Int32} {l4 : Int32} {l5 : Int32}  : zd S 133 30 [some (.ref 76), some (.int l1), some (.int l2), some (.int l3), some (.int l4), some (.int l5)] [] I J k = zd S 133 3 [some (.ref 76), some (.int l1), some (.int l2), some (.int l3), some (.int l4), some (.int (l5 + 1))] [] I J k := by
  refine (tt_f rfl).trans ?_
  refine (tt_in rfl rfl).trans ?_
  refine (tt_f rfl).trans ?_
  refine tt_go.trans ?_
  rfl
theorem B133_36 {l1 : Int32} {l2 : Int32} {l3 : Int32} {l4 : Int32} {l5 : Int32}  : zd S 133 36 [some (.ref 76), some (.int l1), some (.int l2), some (.int l3), some (.int l4), some (.int l5)] [] I J k = some ((some (.int l5)), mk I J, k) := by
  refine (tt_fk rfl rfl).trans ?_
  refine (tt_il rfl).trans ?_
  exact tt_r1 rfl rfl
/-! 134: EditionGridModel.firstLines -/
theorem B134_0 {l1 : Int32} {l2 : Int32} {l3 : Int32} {v3 : Int32} {I4 : zI} {J5 : zJ} (hb : Nat.ble k.1 (mBu 134).1 = true ∧ Nat.ble k.2 (mBu 134).2 = true) (hi1 : zin l1 4 = true) (hi2 : zin l1 4 = true) (hq : zq S 126 [.ref 76, .int l2, .int (l3 - 1), .int (I 86 l1.toNatClampNeg), .int (I 87 l1.toNatClampNeg), .int 1] I J (some (.int v3)) I4 J5) : zd S 134 0 [some (.ref 76), some (.int l1), some (.int l2), some (.int l3), none, none] [] I J k = zd S 134 21 [some (.ref 76), some (.int l1), some (.int l2), some (.int l3), none, none] [.int v3] I4 J5 k := by
  refine (tt_f rfl).trans ?_
  refine (tt_al rfl).trans ?_
  refine (tt_f rfl).trans ?_
  refine (tt_il rfl).trans ?_
  refine (tt_f rfl).trans ?_
  refine (tt_il rfl).trans ?_
  refine (tt_f rfl).trans ?_
  refine tt_c.trans ?_
  refine (tt_f rfl).trans ?_
  refine tt_bi.trans ?_
  refine (tt_f rfl).trans ?_
  refine (tt_al rfl).trans ?_
  refine (tt_f rfl).trans ?_
  refine (tt_gr rfl rfl).trans ?_
  refine (tt_f rfl).trans ?_
  refine (tt_il rfl).trans ?_
  refine (tt_f rfl).trans ?_
  refine (tt_ga rfl rfl hi1).trans ?_
  refine (tt_f rfl).trans ?_
  refine (tt_al rfl).trans ?_
  refine (tt_f rfl).trans ?_
  refine (tt_gr rfl rfl).trans ?_
  refine (tt_f rfl).trans ?_
  refine (tt_il rfl).trans ?_
  refine (tt_f rfl).trans ?_
  refine (tt_ga rfl rfl hi2).trans ?_
  refine (tt_f rfl).trans ?_
  refine tt_c.trans ?_
  exact tt_cv (As := [.int l2, .int (l3 - 1), .int (I 86 l1.toNatClampNeg), .int (I 87 l1.toNatClampNeg), .int 1]) rfl hb.1 hb.2 rfl rfl rfl rfl rfl hq
theorem B134_21 {l1 : Int32} {l2 : Int32} {l3 : Int32} {t0 : Int32} (hi1 : zin l1 4 = true) : zd S 134 21 [some (.ref 76), some (.int l1), some (.int l2), some (.int l3), none, none] [.int t0] I J k = zd S 134 33 [some (.ref 76), some (.int l1), some (.int l2), some (.int l3), some (.int t0), some (.int ((I 94 l1.toNatClampNeg) - 2))] [] I J k := by
  refine (tt_f rfl).trans ?_
  refine (tt_is rfl rfl).trans ?_
  refine (tt_f rfl).trans ?_
  refine (tt_al rfl).trans ?_
  refine (tt_f rfl).trans ?_
  refine (tt_gr rfl rfl).trans ?_
  refine (tt_f rfl).trans ?_
  refine (tt_il rfl).trans ?_
  refine (tt_f rfl).trans ?_
  refine (tt_ga rfl rfl hi1).trans ?_
  refine (tt_f rfl).trans ?_
  refine tt_c.trans ?_
  refine (tt_f rfl).trans ?_
  refine tt_bi.trans ?_
  refine (tt_f rfl).trans ?_
  refine (tt_is rfl rfl).trans ?_
  rfl
theorem B134_33 {l1 : Int32} {l2 : Int32} {o3 : Option Value} {l4 : Int32} {l5 : Int32}  : zd S 134 33 [some (.ref 76), some (.int l1), some (.int l2), o3, some (.int l4), some (.int l5)] [] I J k = if l5 < 2 then zd S 134 75 [some (.ref 76), some (.int l1), some (.int l2), none, some (.int l4), some (.int l5)] [] I J k else zd S 134 39 [some (.ref 76), some (.int l1), some (.int l2), none, some (.int l4), some (.int l5)] [] I J k := by
  refine (tt_fk rfl rfl).trans ?_
  refine (tt_il rfl).trans ?_
  refine (tt_f rfl).trans ?_
  refine tt_c.trans ?_
  refine (tt_f rfl).trans ?_
  exact tt_f2 (p := fun x y => x < y) inferInstance rfl
theorem B134_39 {l1 : Int32} {l2 : Int32} {l4 : Int32} {l5 : Int32}  : zd S 134 39 [some (.ref 76), some (.int l1), some (.int l2), none, some (.int l4), some (.int l5)] [] I J k = if l4 = 0 then zd S 134 75 [some (.ref 76), some (.int l1), some (.int l2), none, some (.int l4), some (.int l5)] [] I J k else zd S 134 44 [some (.ref 76), some (.int l1), some (.int l2), none, some (.int l4), some (.int l5)] [] I J k := by
  refine (tt_f rfl).trans ?_
  refine (tt_il rfl).trans ?_
  refine (tt_f rfl).trans ?_
  exact tt_f1 (p := fun x => x = 0) inferInstance rfl
theorem B134_44 {l1 : Int32} {l2 : Int32} {l4 : Int32} {l5 : Int32} {v1 : Int32} {I2 : zI} {J3 : zJ} (hb : Nat.ble k.1 (mBu 134).1 = true ∧ Nat.ble k.2 (mBu 134).2 = true) (hq : zq S 125 [.ref 76, .int l1, .int l5] I J (some (.int v1)) I2 J3) : zd S 134 44 [some (.ref 76), some (.int l1), some (.int l2), none, some (.int l4), some (.int l5)] [] I J k = zd S 134 51 [some (.ref 76), some (.int l1), some (.int l2), none, some (.int l4), some (.int l5)] [.int v1] I2 J3 k := by
  refine (tt_f rfl).trans ?_
  refine (tt_al rfl).trans ?_
  refine (tt_f rfl).trans ?_
  refine (tt_il rfl).trans ?_
  refine (tt_f rfl).trans ?_
  refine (tt_il rfl).trans ?_
  exact tt_cv (As := [.int l1, .int l5]) rfl hb.1 hb.2 rfl rfl rfl rfl rfl hq
theorem B134_51 {l1 : Int32} {l2 : Int32} {l4 : Int32} {l5 : Int32} {t0 : Int32}  : zd S 134 51 [some (.ref 76), some (.int l1), some (.int l2), none, some (.int l4), some (.int l5)] [.int t0] I J k = if ¬ t0 = 0 then zd S 134 69 [some (.ref 76), some (.int l1), some (.int l2), none, some (.int l4), some (.int l5)] [] I J k else zd S 134 54 [some (.ref 76), some (.int l1), some (.int l2), none, some (.int l4), some (.int l5)] [] I J k := by
  refine (tt_f rfl).trans ?_
  exact tt_f1 (p := fun x => ¬ x = 0) inferInstance rfl
theorem B134_54 {l1 : Int32} {l2 : Int32} {l4 : Int32} {l5 : Int32} {v1 : Int32} {I2 : zI} {J3 : zJ} (hb : Nat.ble k.1 (mBu 134).1 = true ∧ Nat.ble k.2 (mBu 134).2 = true) (hq : zq S 127 [.ref 76, .int l1, .int 0, .int l5, .int l2] I J (some (.int v1)) I2 J3) : zd S 134 54 [some (.ref 76), some (.int l1), some (.int l2), none, some (.int l4), some (.int l5)] [] I J k = zd S 134 63 [some (.ref 76), some (.int l1), some (.int l2), none, some (.int l4), some (.int l5)] [.int v1] I2 J3 k := by
  refine (tt_f rfl).trans ?_
  refine (tt_al rfl).trans ?_
  refine (tt_f rfl).trans ?_
  refine (tt_il rfl).trans ?_
  refine (tt_f rfl).trans ?_
  refine tt_c.trans ?_
  refine (tt_f rfl).trans ?_
  refine (tt_il rfl).trans ?_
  refine (tt_f rfl).trans ?_
  refine (tt_il rfl).trans ?_
  exact tt_cv (As := [.int l1, .int 0, .int l5, .int l2]) rfl hb.1 hb.2 rfl rfl rfl rfl rfl hq
theorem B134_63 {l1 : Int32} {l2 : Int32} {l4 : Int32} {l5 : Int32} {t0 : Int32}  : zd S 134 63 [some (.ref 76), some (.int l1), some (.int l2), none, some (.int l4), some (.int l5)] [.int t0] I J k = if t0 = 0 then zd S 134 69 [some (.ref 76), some (.int l1), some (.int l2), none, some (.int l4), some (.int l5)] [] I J k else zd S 134 66 [some (.ref 76), some (.int l1), some (.int l2), none, some (.int l4), some (.int l5)] [] I J k := by
  refine (tt_f rfl).trans ?_
  exact tt_f1 (p := fun x => x = 0) inferInstance rfl
theorem B134_66 {l1 : Int32} {l2 : Int32} {l4 : Int32} {l5 : Int32}  : zd S 134 66 [some (.ref 76), some (.int l1), some (.int l2), none, some (.int l4), some (.int l5)] [] I J k = some ((some (.int l5)), mk I J, k) := by
  refine (tt_f rfl).trans ?_
  refine (tt_il rfl).trans ?_
  exact tt_r1 rfl rfl
theorem B134_69 {l1 : Int32} {l2 : Int32} {l4 : Int32} {l5 : Int32}  : zd S 134 69 [some (.ref 76), some (.int l1), some (.int l2), none, some (.int l4), some (.int l5)] [] I J k = zd S 134 33 [some (.ref 76), some (.int l1), some (.int l2), none, some (.int l4), some (.int (l5 + (-1)))] [] I J k := by
  refine (tt_fk rfl rfl).trans ?_
  refine (tt_in rfl rfl).trans ?_
  refine (tt_f rfl).trans ?_
  refine tt_go.trans ?_
  rfl
theorem B134_75 {l1 : Int32} {l2 : Int32} {l4 : Int32} {l5 : Int32}  : zd S 134 75 [some (.ref 76), some (.int l1), some (.int l2), none, some (.int l4), some (.int l5)] [] I J k = some ((some (.int 0)), mk I J, k) := by
  refine (tt_fk rfl rfl).trans ?_
  refine tt_c.trans ?_
  exact tt_r1 rfl rfl
/-! 135: EditionGridModel.jumps -/
theorem B135_0 {l1 : Int32} {l2 : Int32} {l3 : Int32} {l4 : Int32} {l5 : Int32} {v1 : Int32} {I2 : zI} {J3 : zJ} (hb : Nat.ble k.1 (mBu 135).1 = true ∧ Nat.ble k.2 (mBu 135).2 = true) (hq : zq S 133 [.ref 76, .int l2, .int l3, .int l4, .int l5] I J (some (.int v1)) I2 J3) : zd S 135 0 [some (.ref 76), some (.int l1), some (.int l2), some (.int l3), some (.int l4), some (.int l5), none, none, none, none, none] [] I J k = zd S 135 10 [some (.ref 76), some (.int l1), some (.int l2), some (.int l3), some (.int l4), some (.int l5), none, none, none, none, none] [.int v1] I2 J3 k := by
  refine (tt_f rfl).trans ?_
  refine (tt_al rfl).trans ?_
  refine (tt_f rfl).trans ?_
  refine (tt_il rfl).trans ?_
  refine (tt_f rfl).trans ?_
  refine (tt_il rfl).trans ?_
  refine (tt_f rfl).trans ?_
  refine (tt_il rfl).trans ?_
  refine (tt_f rfl).trans ?_
  refine (tt_il rfl).trans ?_
  exact tt_cv (As := [.int l2, .int l3, .int l4, .int l5]) rfl hb.1 hb.2 rfl rfl rfl rfl rfl hq
theorem B135_10 {l1 : Int32} {l2 : Int32} {l3 : Int32} {l4 : Int32} {l5 : Int32} {t0 : Int32}  : zd S 135 10 [some (.ref 76), some (.int l1), some (.int l2), some (.int l3), some (.int l4), some (.int l5), none, none, none, none, none] [.int t0] I J k = if (I 76 0) < (l3 + l5) then zd S 135 41 [some (.ref 76), some (.int l1), some (.int l2), some (.int l3), some (.int l4), some (.int l5), some (.int t0), none, none, none, none] [] I J k else zd S 135 23 [some (.ref 76), some (.int l1), some (.int l2), some (.int l3), some (.int l4), some (.int l5), some (.int t0), none, none, none, none] [] I J k := by
  refine (tt_f rfl).trans ?_
  refine (tt_is rfl rfl).trans ?_
  refine (tt_f rfl).trans ?_
  refine (tt_il rfl).trans ?_
  refine (tt_f rfl).trans ?_
  refine (tt_il rfl).trans ?_
  refine (tt_f rfl).trans ?_
  refine tt_bi.trans ?_
  refine (tt_f rfl).trans ?_
  refine (tt_al rfl).trans ?_
  refine (tt_f rfl).trans ?_
  refine (tt_gi rfl rfl).trans ?_
  refine (tt_f rfl).trans ?_
  exact tt_f2 (p := fun x y => y < x) inferInstance rfl
theorem B135_23 {l1 : Int32} {l2 : Int32} {l3 : Int32} {l4 : Int32} {l5 : Int32} {l6 : Int32}  : zd S 135 23 [some (.ref 76), some (.int l1), some (.int l2), some (.int l3), some (.int l4), some (.int l5), some (.int l6), none, none, none, none] [] I J k = if l6 < 2 then zd S 135 41 [some (.ref 76), some (.int l1), some (.int l2), some (.int l3), some (.int l4), some (.int l5), some (.int l6), none, none, none, none] [] I J k else zd S 135 29 [some (.ref 76), some (.int l1), some (.int l2), some (.int l3), some (.int l4), some (.int l5), some (.int l6), none, none, none, none] [] I J k := by
  refine (tt_f rfl).trans ?_
  refine (tt_il rfl).trans ?_
  refine (tt_f rfl).trans ?_
  refine tt_c.trans ?_
  refine (tt_f rfl).trans ?_
  exact tt_f2 (p := fun x y => x < y) inferInstance rfl
theorem B135_29 {l1 : Int32} {l2 : Int32} {l3 : Int32} {l4 : Int32} {l5 : Int32} {l6 : Int32} {v1 : Int32} {I2 : zI} {J3 : zJ} (hb : Nat.ble k.1 (mBu 135).1 = true ∧ Nat.ble k.2 (mBu 135).2 = true) (hq : zq S 134 [.ref 76, .int l1, .int l5, .int l6] I J (some (.int v1)) I2 J3) : zd S 135 29 [some (.ref 76), some (.int l1), some (.int l2), some (.int l3), some (.int l4), some (.int l5), some (.int l6), none, none, none, none] [] I J k = zd S 135 38 [some (.ref 76), some (.int l1), some (.int l2), some (.int l3), some (.int l4), some (.int l5), some (.int l6), none, none, none, none] [.int v1] I2 J3 k := by
  refine (tt_f rfl).trans ?_
  refine (tt_al rfl).trans ?_
  refine (tt_f rfl).trans ?_
  refine (tt_il rfl).trans ?_
  refine (tt_f rfl).trans ?_
  refine (tt_il rfl).trans ?_
  refine (tt_f rfl).trans ?_
  refine (tt_il rfl).trans ?_
  exact tt_cv (As := [.int l1, .int l5, .int l6]) rfl hb.1 hb.2 rfl rfl rfl rfl rfl hq
theorem B135_38 {l1 : Int32} {l2 : Int32} {l3 : Int32} {l4 : Int32} {l5 : Int32} {l6 : Int32} {t0 : Int32}  : zd S 135 38 [some (.ref 76), some (.int l1), some (.int l2), some (.int l3), some (.int l4), some (.int l5), some (.int l6), none, none, none, none] [.int t0] I J k = if t0 = 0 then zd S 135 70 [some (.ref 76), some (.int l1), some (.int l2), some (.int l3), some (.int l4), some (.int l5), some (.int l6), some (.int t0), none, none, none] [] I J k else zd S 135 49 [some (.ref 76), some (.int l1), some (.int l2), some (.int l3), some (.int l4), some (.int l5), some (.int l6), some (.int t0), none, none, none] [] I J k := by
  refine (tt_f rfl).trans ?_
  refine tt_go.trans ?_
  refine (tt_fk rfl rfl).trans ?_
  refine (tt_is rfl rfl).trans ?_
  refine (tt_f rfl).trans ?_
  refine (tt_il rfl).trans ?_
  refine (tt_f rfl).trans ?_
  exact tt_f1 (p := fun x => x = 0) inferInstance rfl
theorem B135_41 {l1 : Int32} {l2 : Int32} {l3 : Int32} {l4 : Int32} {l5 : Int32} {l6 : Int32}  : zd S 135 41 [some (.ref 76), some (.int l1), some (.int l2), some (.int l3), some (.int l4), some (.int l5), some (.int l6), none, none, none, none] [] I J k = if 0 = 0 then zd S 135 70 [some (.ref 76), some (.int l1), some (.int l2), some (.int l3), some (.int l4), some (.int l5), some (.int l6), some (.int 0), none, none, none] [] I J k else zd S 135 49 [some (.ref 76), some (.int l1), some (.int l2), some (.int l3), some (.int l4), some (.int l5), some (.int l6), some (.int 0), none, none, none] [] I J k := by
  refine (tt_fk rfl rfl).trans ?_
  refine tt_c.trans ?_
  refine (tt_fk rfl rfl).trans ?_
  refine (tt_is rfl rfl).trans ?_
  refine (tt_f rfl).trans ?_
  refine (tt_il rfl).trans ?_
  refine (tt_f rfl).trans ?_
  exact tt_f1 (p := fun x => x = 0) inferInstance rfl
theorem B135_49 {l1 : Int32} {l2 : Int32} {l3 : Int32} {l4 : Int32} {l5 : Int32} {l6 : Int32} {l7 : Int32} {v2 : Int32} {I3 : zI} {J4 : zJ} (hb : Nat.ble k.1 (mBu 135).1 = true ∧ Nat.ble k.2 (mBu 135).2 = true) (hi1 : zin l1 4 = true) (hq : zq S 130 [.ref 76, .int l1, .int l7, .int (I 94 l1.toNatClampNeg), .int 0, .int 0, .int (l2 + 1)] I J (some (.int v2)) I3 J4) : zd S 135 49 [some (.ref 76), some (.int l1), some (.int l2), some (.int l3), some (.int l4), some (.int l5), some (.int l6), some (.int l7), none, none, none] [] I J k = zd S 135 67 [some (.ref 76), some (.int l1), some (.int l2), some (.int l3), some (.int l4), some (.int l5), some (.int l6), some (.int l7), none, none, none] [.int v2] I3 J4 k := by
  refine (tt_f rfl).trans ?_
  refine (tt_al rfl).trans ?_
  refine (tt_f rfl).trans ?_
  refine (tt_il rfl).trans ?_
  refine (tt_f rfl).trans ?_
  refine (tt_il rfl).trans ?_
  refine (tt_f rfl).trans ?_
  refine (tt_al rfl).trans ?_
  refine (tt_f rfl).trans ?_
  refine (tt_gr rfl rfl).trans ?_
  refine (tt_f rfl).trans ?_
  refine (tt_il rfl).trans ?_
  refine (tt_f rfl).trans ?_
  refine (tt_ga rfl rfl hi1).trans ?_
  refine (tt_f rfl).trans ?_
  refine tt_c.trans ?_
  refine (tt_f rfl).trans ?_
  refine tt_c.trans ?_
  refine (tt_f rfl).trans ?_
  refine (tt_il rfl).trans ?_
  refine (tt_f rfl).trans ?_
  refine tt_c.trans ?_
  refine (tt_f rfl).trans ?_
  refine tt_bi.trans ?_
  exact tt_cv (As := [.int l1, .int l7, .int (I 94 l1.toNatClampNeg), .int 0, .int 0, .int (l2 + 1)]) rfl hb.1 hb.2 rfl rfl rfl rfl rfl hq
theorem B135_67 {l1 : Int32} {l2 : Int32} {l3 : Int32} {l4 : Int32} {l5 : Int32} {l6 : Int32} {l7 : Int32} {t0 : Int32}  : zd S 135 67 [some (.ref 76), some (.int l1), some (.int l2), some (.int l3), some (.int l4), some (.int l5), some (.int l6), some (.int l7), none, none, none] [.int t0] I J k = if ¬ t0 = 0 then zd S 135 72 [some (.ref 76), some (.int l1), some (.int l2), some (.int l3), some (.int l4), some (.int l5), some (.int l6), some (.int l7), none, none, none] [] I J k else zd S 135 70 [some (.ref 76), some (.int l1), some (.int l2), some (.int l3), some (.int l4), some (.int l5), some (.int l6), some (.int l7), none, none, none] [] I J k := by
  refine (tt_f rfl).trans ?_
  exact tt_f1 (p := fun x => ¬ x = 0) inferInstance rfl
theorem B135_70 {l1 : Int32} {l2 : Int32} {l3 : Int32} {l4 : Int32} {l5 : Int32} {l6 : Int32} {l7 : Int32} (hz : zrt 2 (.int 0) = true) : zd S 135 70 [some (.ref 76), some (.int l1), some (.int l2), some (.int l3), some (.int l4), some (.int l5), some (.int l6), some (.int l7), none, none, none] [] I J k = some ((some (.int 0)), mk I J, k) := by
  refine (tt_fk rfl rfl).trans ?_
  refine tt_c.trans ?_
  exact tt_r1 rfl hz
theorem B135_72 {l1 : Int32} {l2 : Int32} {l3 : Int32} {l4 : Int32} {l5 : Int32} {l6 : Int32} {l7 : Int32} {v2 : Int32} {I3 : zI} {J4 : zJ} (hb : Nat.ble k.1 (mBu 135).1 = true ∧ Nat.ble k.2 (mBu 135).2 = true) (hi1 : zin (I 76 45) 5 = true) (hq : zq S 126 [.ref 76, .int (I 76 45), .int ((I 109 (I 76 45).toNatClampNeg) - 1), .int 0, .int 0, .int 0] I J (some (.int v2)) I3 J4) : zd S 135 72 [some (.ref 76), some (.int l1), some (.int l2), some (.int l3), some (.int l4), some (.int l5), some (.int l6), some (.int l7), none, none, none] [] I J k = zd S 135 100 [some (.ref 76), some (.int l1), some (.int l2), some (.int l3), some (.int l4), some (.int l5), some (.int l6), some (.int l7), some (.int (I 76 42)), none, none] [.int v2] I3 J4 k := by
  refine (tt_f rfl).trans ?_
  refine (tt_al rfl).trans ?_
  refine (tt_f rfl).trans ?_
  refine (tt_gi rfl rfl).trans ?_
  refine (tt_f rfl).trans ?_
  refine (tt_is rfl rfl).trans ?_
  refine (tt_f rfl).trans ?_
  refine (tt_al rfl).trans ?_
  refine (tt_f rfl).trans ?_
  refine (tt_al rfl).trans ?_
  refine (tt_f rfl).trans ?_
  refine (tt_gi rfl rfl).trans ?_
  refine (tt_f rfl).trans ?_
  refine (tt_al rfl).trans ?_
  refine (tt_f rfl).trans ?_
  refine (tt_gr rfl rfl).trans ?_
  refine (tt_f rfl).trans ?_
  refine (tt_al rfl).trans ?_
  refine (tt_f rfl).trans ?_
  refine (tt_gi rfl rfl).trans ?_
  refine (tt_f rfl).trans ?_
  refine (tt_ga rfl rfl hi1).trans ?_
  refine (tt_f rfl).trans ?_
  refine tt_c.trans ?_
  refine (tt_f rfl).trans ?_
  refine tt_bi.trans ?_
  refine (tt_f rfl).trans ?_
  refine tt_c.trans ?_
  refine (tt_f rfl).trans ?_
  refine tt_c.trans ?_
  refine (tt_f rfl).trans ?_
  refine tt_c.trans ?_
  exact tt_cv (As := [.int (I 76 45), .int ((I 109 (I 76 45).toNatClampNeg) - 1), .int 0, .int 0, .int 0]) rfl hb.1 hb.2 rfl rfl rfl rfl rfl hq
theorem B135_100 {l1 : Int32} {l2 : Int32} {l3 : Int32} {l4 : Int32} {l5 : Int32} {l6 : Int32} {l7 : Int32} {l8 : Int32} {t0 : Int32}  : zd S 135 100 [some (.ref 76), some (.int l1), some (.int l2), some (.int l3), some (.int l4), some (.int l5), some (.int l6), some (.int l7), some (.int l8), none, none] [.int t0] I J k = if t0 = 0 then zd S 135 127 [some (.ref 76), some (.int l1), some (.int l2), some (.int l3), some (.int l4), some (.int l5), some (.int l6), some (.int l7), some (.int l8), none, none] [] I J k else zd S 135 103 [some (.ref 76), some (.int l1), some (.int l2), some (.int l3), some (.int l4), some (.int l5), some (.int l6), some (.int l7), some (.int l8), none, none] [] I J k := by
  refine (tt_f rfl).trans ?_
  exact tt_f1 (p := fun x => x = 0) inferInstance rfl
theorem B135_103 {l1 : Int32} {l2 : Int32} {l3 : Int32} {l4 : Int32} {l5 : Int32} {l6 : Int32} {l7 : Int32} {l8 : Int32} {v2 : Int32} {I3 : zI} {J4 : zJ} (hb : Nat.ble k.1 (mBu 135).1 = true ∧ Nat.ble k.2 (mBu 135).2 = true) (hi1 : zin l1 4 = true) (hq : zq S 127 [.ref 76, .int l1, .int l7, .int (I 94 l1.toNatClampNeg), .int (I 76 45)] I J (some (.int v2)) I3 J4) : zd S 135 103 [some (.ref 76), some (.int l1), some (.int l2), some (.int l3), some (.int l4), some (.int l5), some (.int l6), some (.int l7), some (.int l8), none, none] [] I J k = zd S 135 120 [some (.ref 76), some (.int l1), some (.int l2), some (.int l3), some (.int l4), some (.int l5), some (.int l6), some (.int l7), some (.int l8), none, none] [.int v2] I3 J4 k := by
  refine (tt_f rfl).trans ?_
  refine (tt_al rfl).trans ?_
  refine (tt_f rfl).trans ?_
  refine (tt_il rfl).trans ?_
  refine (tt_f rfl).trans ?_
  refine (tt_il rfl).trans ?_
  refine (tt_f rfl).trans ?_
  refine (tt_al rfl).trans ?_
  refine (tt_f rfl).trans ?_
  refine (tt_gr rfl rfl).trans ?_
  refine (tt_f rfl).trans ?_
  refine (tt_il rfl).trans ?_
  refine (tt_f rfl).trans ?_
  refine (tt_ga rfl rfl hi1).trans ?_
  refine (tt_f rfl).trans ?_
  refine (tt_al rfl).trans ?_
  refine (tt_f rfl).trans ?_
  refine (tt_gi rfl rfl).trans ?_
  exact tt_cv (As := [.int l1, .int l7, .int (I 94 l1.toNatClampNeg), .int (I 76 45)]) rfl hb.1 hb.2 rfl rfl rfl rfl rfl hq
theorem B135_120 {l1 : Int32} {l2 : Int32} {l3 : Int32} {l4 : Int32} {l5 : Int32} {l6 : Int32} {l7 : Int32} {l8 : Int32} {t0 : Int32}  : zd S 135 120 [some (.ref 76), some (.int l1), some (.int l2), some (.int l3), some (.int l4), some (.int l5), some (.int l6), some (.int l7), some (.int l8), none, none] [.int t0] I J k = if t0 = 0 then zd S 135 127 [some (.ref 76), some (.int l1), some (.int l2), some (.int l3), some (.int l4), some (.int l5), some (.int l6), some (.int l7), some (.int l8), none, none] [] I J k else zd S 135 123 [some (.ref 76), some (.int l1), some (.int l2), some (.int l3), some (.int l4), some (.int l5), some (.int l6), some (.int l7), some (.int l8), none, none] [] I J k := by
  refine (tt_f rfl).trans ?_
  exact tt_f1 (p := fun x => x = 0) inferInstance rfl
theorem B135_123 {l1 : Int32} {l2 : Int32} {l3 : Int32} {l4 : Int32} {l5 : Int32} {l6 : Int32} {l7 : Int32} {l8 : Int32} {I3 : zI} {J4 : zJ} (hb : Nat.ble k.1 (mBu 135).1 = true ∧ Nat.ble k.2 (mBu 135).2 = true) (hi1 : zin (I 76 45) 5 = true) (hi2 : zin l1 4 = true) (hq : zq S 132 [.ref 76, .int l1, .int 1, .int (I 109 (I 76 45).toNatClampNeg), .int l7, .int (I 94 l1.toNatClampNeg), .int 0, .int 0] I J none I3 J4) : zd S 135 123 [some (.ref 76), some (.int l1), some (.int l2), some (.int l3), some (.int l4), some (.int l5), some (.int l6), some (.int l7), some (.int l8), none, none] [] I J k = zd S 135 155 [some (.ref 76), some (.int l1), some (.int l2), some (.int l3), some (.int l4), some (.int l5), some (.int l6), some (.int l7), none, some (.int 1), none] [] I3 J4 k := by
  refine (tt_f rfl).trans ?_
  refine tt_c.trans ?_
  refine (tt_f rfl).trans ?_
  refine tt_go.trans ?_
  refine (tt_fk rfl rfl).trans ?_
  refine (tt_is rfl rfl).trans ?_
  refine (tt_f rfl).trans ?_
  refine (tt_al rfl).trans ?_
  refine (tt_f rfl).trans ?_
  refine (tt_il rfl).trans ?_
  refine (tt_f rfl).trans ?_
  refine tt_c.trans ?_
  refine (tt_f rfl).trans ?_
  refine (tt_al rfl).trans ?_
  refine (tt_f rfl).trans ?_
  refine (tt_gr rfl rfl).trans ?_
  refine (tt_f rfl).trans ?_
  refine (tt_al rfl).trans ?_
  refine (tt_f rfl).trans ?_
  refine (tt_gi rfl rfl).trans ?_
  refine (tt_f rfl).trans ?_
  refine (tt_ga rfl rfl hi1).trans ?_
  refine (tt_f rfl).trans ?_
  refine (tt_il rfl).trans ?_
  refine (tt_f rfl).trans ?_
  refine (tt_al rfl).trans ?_
  refine (tt_f rfl).trans ?_
  refine (tt_gr rfl rfl).trans ?_
  refine (tt_f rfl).trans ?_
  refine (tt_il rfl).trans ?_
  refine (tt_f rfl).trans ?_
  refine (tt_ga rfl rfl hi2).trans ?_
  refine (tt_f rfl).trans ?_
  refine tt_c.trans ?_
  refine (tt_f rfl).trans ?_
  refine tt_c.trans ?_
  exact tt_cv (As := [.int l1, .int 1, .int (I 109 (I 76 45).toNatClampNeg), .int l7, .int (I 94 l1.toNatClampNeg), .int 0, .int 0]) rfl hb.1 hb.2 rfl rfl rfl rfl rfl hq
theorem B135_127 {l1 : Int32} {l2 : Int32} {l3 : Int32} {l4 : Int32} {l5 : Int32} {l6 : Int32} {l7 : Int32} {l8 : Int32} {I3 : zI} {J4 : zJ} (hb : Nat.ble k.1 (mBu 135).1 = true ∧ Nat.ble k.2 (mBu 135).2 = true) (hi1 : zin (I 76 45) 5 = true) (hi2 : zin l1 4 = true) (hq : zq S 132 [.ref 76, .int l1, .int 1, .int (I 109 (I 76 45).toNatClampNeg), .int l7, .int (I 94 l1.toNatClampNeg), .int 0, .int 0] I J none I3 J4) : zd S 135 127 [some (.ref 76), some (.int l1), some (.int l2), some (.int l3), some (.int l4), some (.int l5), some (.int l6), some (.int l7), some (.int l8), none, none] [] I J k = zd S 135 155 [some (.ref 76), some (.int l1), some (.int l2), some (.int l3), some (.int l4), some (.int l5), some (.int l6), some (.int l7), none, some (.int 0), none] [] I3 J4 k := by
  refine (tt_fk rfl rfl).trans ?_
  refine tt_c.trans ?_
  refine (tt_fk rfl rfl).trans ?_
  refine (tt_is rfl rfl).trans ?_
  refine (tt_f rfl).trans ?_
  refine (tt_al rfl).trans ?_
  refine (tt_f rfl).trans ?_
  refine (tt_il rfl).trans ?_
  refine (tt_f rfl).trans ?_
  refine tt_c.trans ?_
  refine (tt_f rfl).trans ?_
  refine (tt_al rfl).trans ?_
  refine (tt_f rfl).trans ?_
  refine (tt_gr rfl rfl).trans ?_
  refine (tt_f rfl).trans ?_
  refine (tt_al rfl).trans ?_
  refine (tt_f rfl).trans ?_
  refine (tt_gi rfl rfl).trans ?_
  refine (tt_f rfl).trans ?_
  refine (tt_ga rfl rfl hi1).trans ?_
  refine (tt_f rfl).trans ?_
  refine (tt_il rfl).trans ?_
  refine (tt_f rfl).trans ?_
  refine (tt_al rfl).trans ?_
  refine (tt_f rfl).trans ?_
  refine (tt_gr rfl rfl).trans ?_
  refine (tt_f rfl).trans ?_
  refine (tt_il rfl).trans ?_
  refine (tt_f rfl).trans ?_
  refine (tt_ga rfl rfl hi2).trans ?_
  refine (tt_f rfl).trans ?_
  refine tt_c.trans ?_
  refine (tt_f rfl).trans ?_
  refine tt_c.trans ?_
  exact tt_cv (As := [.int l1, .int 1, .int (I 109 (I 76 45).toNatClampNeg), .int l7, .int (I 94 l1.toNatClampNeg), .int 0, .int 0]) rfl hb.1 hb.2 rfl rfl rfl rfl rfl hq
theorem B135_155 {l1 : Int32} {l2 : Int32} {l3 : Int32} {l4 : Int32} {l5 : Int32} {l6 : Int32} {l7 : Int32} {l9 : Int32}  : zd S 135 155 [some (.ref 76), some (.int l1), some (.int l2), some (.int l3), some (.int l4), some (.int l5), some (.int l6), some (.int l7), none, some (.int l9), none] [] I J k = zd S 135 160 [some (.ref 76), some (.int l1), some (.int l2), some (.int l3), some (.int l4), some (.int l5), some (.int l6), some (.int l7), none, some (.int l9), none] [] (u2 I 76 42 l2) J k := by
  refine (tt_f rfl).trans ?_
  refine (tt_al rfl).trans ?_
  refine (tt_f rfl).trans ?_
  refine (tt_il rfl).trans ?_
  refine (tt_f rfl).trans ?_
  exact tt_pi rfl rfl rfl
theorem B135_160 {l1 : Int32} {l2 : Int32} {l3 : Int32} {l4 : Int32} {l5 : Int32} {l6 : Int32} {l7 : Int32} {l9 : Int32}  : zd S 135 160 [some (.ref 76), some (.int l1), some (.int l2), some (.int l3), some (.int l4), some (.int l5), some (.int l6), some (.int l7), none, some (.int l9), none] [] I J k = zd S 135 165 [some (.ref 76), some (.int l1), some (.int l2), some (.int l3), some (.int l4), some (.int l5), some (.int l6), some (.int l7), none, some (.int l9), none] [] (u2 I 76 43 l3) J k := by
  refine (tt_f rfl).trans ?_
  refine (tt_al rfl).trans ?_
  refine (tt_f rfl).trans ?_
  refine (tt_il rfl).trans ?_
  refine (tt_f rfl).trans ?_
  exact tt_pi rfl rfl rfl
theorem B135_165 {l1 : Int32} {l2 : Int32} {l3 : Int32} {l4 : Int32} {l5 : Int32} {l6 : Int32} {l7 : Int32} {l9 : Int32}  : zd S 135 165 [some (.ref 76), some (.int l1), some (.int l2), some (.int l3), some (.int l4), some (.int l5), some (.int l6), some (.int l7), none, some (.int l9), none] [] I J k = zd S 135 171 [some (.ref 76), some (.int l1), some (.int l2), some (.int l3), some (.int l4), some (.int l5), some (.int l6), some (.int l7), none, some (.int l9), none] [] (u2 I 76 44 l4) J k := by
  refine (tt_f rfl).trans ?_
  refine (tt_al rfl).trans ?_
  refine (tt_f rfl).trans ?_
  refine (tt_il rfl).trans ?_
  refine (tt_f rfl).trans ?_
  exact tt_pi rfl rfl rfl
theorem B135_171 {l1 : Int32} {l2 : Int32} {l3 : Int32} {l4 : Int32} {l5 : Int32} {l6 : Int32} {l7 : Int32} {l9 : Int32}  : zd S 135 171 [some (.ref 76), some (.int l1), some (.int l2), some (.int l3), some (.int l4), some (.int l5), some (.int l6), some (.int l7), none, some (.int l9), none] [] I J k = zd S 135 177 [some (.ref 76), some (.int l1), some (.int l2), some (.int l3), some (.int l4), some (.int l5), some (.int l6), some (.int l7), none, some (.int l9), none] [] (u2 I 76 45 l5) J k := by
  refine (tt_f rfl).trans ?_
  refine (tt_al rfl).trans ?_
  refine (tt_f rfl).trans ?_
  refine (tt_il rfl).trans ?_
  refine (tt_f rfl).trans ?_
  exact tt_pi rfl rfl rfl
theorem B135_177 {l1 : Int32} {l2 : Int32} {l3 : Int32} {l4 : Int32} {l5 : Int32} {l6 : Int32} {l7 : Int32} {l9 : Int32} {v3 : Int32} {I4 : zI} {J5 : zJ} (hb : Nat.ble k.1 (mBu 135).1 = true ∧ Nat.ble k.2 (mBu 135).2 = true) (hi1 : zin l1 4 = true) (hi2 : zin l1 4 = true) (hq : zq S 126 [.ref 76, .int l5, .int (l6 - 1), .int (I 86 l1.toNatClampNeg), .int (I 87 l1.toNatClampNeg), .int 1] I J (some (.int v3)) I4 J5) : zd S 135 177 [some (.ref 76), some (.int l1), some (.int l2), some (.int l3), some (.int l4), some (.int l5), some (.int l6), some (.int l7), none, some (.int l9), none] [] I J k = zd S 135 200 [some (.ref 76), some (.int l1), some (.int l2), some (.int l3), some (.int l4), some (.int l5), some (.int l6), some (.int l7), none, some (.int l9), none] [.int v3] I4 J5 k := by
  refine (tt_f rfl).trans ?_
  refine (tt_al rfl).trans ?_
  refine (tt_f rfl).trans ?_
  refine (tt_il rfl).trans ?_
  refine (tt_f rfl).trans ?_
  refine (tt_il rfl).trans ?_
  refine (tt_f rfl).trans ?_
  refine tt_c.trans ?_
  refine (tt_f rfl).trans ?_
  refine tt_bi.trans ?_
  refine (tt_f rfl).trans ?_
  refine (tt_al rfl).trans ?_
  refine (tt_f rfl).trans ?_
  refine (tt_gr rfl rfl).trans ?_
  refine (tt_f rfl).trans ?_
  refine (tt_il rfl).trans ?_
  refine (tt_f rfl).trans ?_
  refine (tt_ga rfl rfl hi1).trans ?_
  refine (tt_f rfl).trans ?_
  refine (tt_al rfl).trans ?_
  refine (tt_f rfl).trans ?_
  refine (tt_gr rfl rfl).trans ?_
  refine (tt_f rfl).trans ?_
  refine (tt_il rfl).trans ?_
  refine (tt_f rfl).trans ?_
  refine (tt_ga rfl rfl hi2).trans ?_
  refine (tt_f rfl).trans ?_
  refine tt_c.trans ?_
  exact tt_cv (As := [.int l5, .int (l6 - 1), .int (I 86 l1.toNatClampNeg), .int (I 87 l1.toNatClampNeg), .int 1]) rfl hb.1 hb.2 rfl rfl rfl rfl rfl hq
theorem B135_200 {l1 : Int32} {l2 : Int32} {l3 : Int32} {l4 : Int32} {l5 : Int32} {l6 : Int32} {l7 : Int32} {l9 : Int32} {t0 : Int32}  : zd S 135 200 [some (.ref 76), some (.int l1), some (.int l2), some (.int l3), some (.int l4), some (.int l5), some (.int l6), some (.int l7), none, some (.int l9), none] [.int t0] I J k = if t0 = 0 then zd S 135 220 [some (.ref 76), some (.int l1), some (.int l2), some (.int l3), some (.int l4), some (.int l5), some (.int l6), some (.int l7), none, some (.int l9), none] [] I J k else zd S 135 203 [some (.ref 76), some (.int l1), some (.int l2), some (.int l3), some (.int l4), some (.int l5), some (.int l6), some (.int l7), none, some (.int l9), none] [] I J k := by
  refine (tt_f rfl).trans ?_
  exact tt_f1 (p := fun x => x = 0) inferInstance rfl
theorem B135_203 {l1 : Int32} {l2 : Int32} {l3 : Int32} {l4 : Int32} {l5 : Int32} {l6 : Int32} {l7 : Int32} {l9 : Int32} {v1 : Int32} {I2 : zI} {J3 : zJ} (hb : Nat.ble k.1 (mBu 135).1 = true ∧ Nat.ble k.2 (mBu 135).2 = true) (hq : zq S 127 [.ref 76, .int l1, .int 0, .int l7, .int l5] I J (some (.int v1)) I2 J3) : zd S 135 203 [some (.ref 76), some (.int l1), some (.int l2), some (.int l3), some (.int l4), some (.int l5), some (.int l6), some (.int l7), none, some (.int l9), none] [] I J k = zd S 135 213 [some (.ref 76), some (.int l1), some (.int l2), some (.int l3), some (.int l4), some (.int l5), some (.int l6), some (.int l7), none, some (.int l9), none] [.int v1] I2 J3 k := by
  refine (tt_f rfl).trans ?_
  refine (tt_al rfl).trans ?_
  refine (tt_f rfl).trans ?_
  refine (tt_il rfl).trans ?_
  refine (tt_f rfl).trans ?_
  refine tt_c.trans ?_
  refine (tt_f rfl).trans ?_
  refine (tt_il rfl).trans ?_
  refine (tt_f rfl).trans ?_
  refine (tt_il rfl).trans ?_
  exact tt_cv (As := [.int l1, .int 0, .int l7, .int l5]) rfl hb.1 hb.2 rfl rfl rfl rfl rfl hq
theorem B135_213 {l1 : Int32} {l2 : Int32} {l3 : Int32} {l4 : Int32} {l5 : Int32} {l6 : Int32} {l7 : Int32} {l9 : Int32} {t0 : Int32}  : zd S 135 213 [some (.ref 76), some (.int l1), some (.int l2), some (.int l3), some (.int l4), some (.int l5), some (.int l6), some (.int l7), none, some (.int l9), none] [.int t0] I J k = if t0 = 0 then zd S 135 220 [some (.ref 76), some (.int l1), some (.int l2), some (.int l3), some (.int l4), some (.int l5), some (.int l6), some (.int l7), none, some (.int l9), none] [] I J k else zd S 135 216 [some (.ref 76), some (.int l1), some (.int l2), some (.int l3), some (.int l4), some (.int l5), some (.int l6), some (.int l7), none, some (.int l9), none] [] I J k := by
  refine (tt_f rfl).trans ?_
  exact tt_f1 (p := fun x => x = 0) inferInstance rfl
theorem B135_216 {l1 : Int32} {l2 : Int32} {l3 : Int32} {l4 : Int32} {l5 : Int32} {l6 : Int32} {l7 : Int32} {l9 : Int32} {I3 : zI} {J4 : zJ} (hb : Nat.ble k.1 (mBu 135).1 = true ∧ Nat.ble k.2 (mBu 135).2 = true) (hi1 : zin l1 4 = true) (hi2 : zin l1 4 = true) (hq : zq S 132 [.ref 76, .int l1, .int 0, .int l6, .int 0, .int l7, .int (I 86 l1.toNatClampNeg), .int (I 87 l1.toNatClampNeg)] I J none I3 J4) : zd S 135 216 [some (.ref 76), some (.int l1), some (.int l2), some (.int l3), some (.int l4), some (.int l5), some (.int l6), some (.int l7), none, some (.int l9), none] [] I J k = zd S 135 246 [some (.ref 76), some (.int l1), some (.int l2), some (.int l3), some (.int l4), some (.int l5), some (.int l6), some (.int l7), none, none, some (.int 1)] [] I3 J4 k := by
  refine (tt_f rfl).trans ?_
  refine tt_c.trans ?_
  refine (tt_f rfl).trans ?_
  refine tt_go.trans ?_
  refine (tt_fk rfl rfl).trans ?_
  refine (tt_is rfl rfl).trans ?_
  refine (tt_f rfl).trans ?_
  refine (tt_al rfl).trans ?_
  refine (tt_f rfl).trans ?_
  refine (tt_il rfl).trans ?_
  refine (tt_f rfl).trans ?_
  refine tt_c.trans ?_
  refine (tt_f rfl).trans ?_
  refine (tt_il rfl).trans ?_
  refine (tt_f rfl).trans ?_
  refine tt_c.trans ?_
  refine (tt_f rfl).trans ?_
  refine (tt_il rfl).trans ?_
  refine (tt_f rfl).trans ?_
  refine (tt_al rfl).trans ?_
  refine (tt_f rfl).trans ?_
  refine (tt_gr rfl rfl).trans ?_
  refine (tt_f rfl).trans ?_
  refine (tt_il rfl).trans ?_
  refine (tt_f rfl).trans ?_
  refine (tt_ga rfl rfl hi1).trans ?_
  refine (tt_f rfl).trans ?_
  refine (tt_al rfl).trans ?_
  refine (tt_f rfl).trans ?_
  refine (tt_gr rfl rfl).trans ?_
  refine (tt_f rfl).trans ?_
  refine (tt_il rfl).trans ?_
  refine (tt_f rfl).trans ?_
  refine (tt_ga rfl rfl hi2).trans ?_
  exact tt_cv (As := [.int l1, .int 0, .int l6, .int 0, .int l7, .int (I 86 l1.toNatClampNeg), .int (I 87 l1.toNatClampNeg)]) rfl hb.1 hb.2 rfl rfl rfl rfl rfl hq
theorem B135_220 {l1 : Int32} {l2 : Int32} {l3 : Int32} {l4 : Int32} {l5 : Int32} {l6 : Int32} {l7 : Int32} {l9 : Int32} {I3 : zI} {J4 : zJ} (hb : Nat.ble k.1 (mBu 135).1 = true ∧ Nat.ble k.2 (mBu 135).2 = true) (hi1 : zin l1 4 = true) (hi2 : zin l1 4 = true) (hq : zq S 132 [.ref 76, .int l1, .int 0, .int l6, .int 0, .int l7, .int (I 86 l1.toNatClampNeg), .int (I 87 l1.toNatClampNeg)] I J none I3 J4) : zd S 135 220 [some (.ref 76), some (.int l1), some (.int l2), some (.int l3), some (.int l4), some (.int l5), some (.int l6), some (.int l7), none, some (.int l9), none] [] I J k = zd S 135 246 [some (.ref 76), some (.int l1), some (.int l2), some (.int l3), some (.int l4), some (.int l5), some (.int l6), some (.int l7), none, none, some (.int 0)] [] I3 J4 k := by
  refine (tt_fk rfl rfl).trans ?_
  refine tt_c.trans ?_
  refine (tt_fk rfl rfl).trans ?_
  refine (tt_is rfl rfl).trans ?_
  refine (tt_f rfl).trans ?_
  refine (tt_al rfl).trans ?_
  refine (tt_f rfl).trans ?_
  refine (tt_il rfl).trans ?_
  refine (tt_f rfl).trans ?_
  refine tt_c.trans ?_
  refine (tt_f rfl).trans ?_
  refine (tt_il rfl).trans ?_
  refine (tt_f rfl).trans ?_
  refine tt_c.trans ?_
  refine (tt_f rfl).trans ?_
  refine (tt_il rfl).trans ?_
  refine (tt_f rfl).trans ?_
  refine (tt_al rfl).trans ?_
  refine (tt_f rfl).trans ?_
  refine (tt_gr rfl rfl).trans ?_
  refine (tt_f rfl).trans ?_
  refine (tt_il rfl).trans ?_
  refine (tt_f rfl).trans ?_
  refine (tt_ga rfl rfl hi1).trans ?_
  refine (tt_f rfl).trans ?_
  refine (tt_al rfl).trans ?_
  refine (tt_f rfl).trans ?_
  refine (tt_gr rfl rfl).trans ?_
  refine (tt_f rfl).trans ?_
  refine (tt_il rfl).trans ?_
  refine (tt_f rfl).trans ?_
  refine (tt_ga rfl rfl hi2).trans ?_
  exact tt_cv (As := [.int l1, .int 0, .int l6, .int 0, .int l7, .int (I 86 l1.toNatClampNeg), .int (I 87 l1.toNatClampNeg)]) rfl hb.1 hb.2 rfl rfl rfl rfl rfl hq
theorem B135_246 {l1 : Int32} {l2 : Int32} {l3 : Int32} {l4 : Int32} {l5 : Int32} {l6 : Int32} {l7 : Int32} {l10 : Int32} (hi1 : zin (((((64 * l2) + (16 * ((l3 + l5) - 1))) + l4) + l6) - 1) 192 = true) : zd S 135 246 [some (.ref 76), some (.int l1), some (.int l2), some (.int l3), some (.int l4), some (.int l5), some (.int l6), some (.int l7), none, none, some (.int l10)] [] I J k = zd S 135 282 [some (.ref 76), some (.int l1), some (.int l2), some (.int l3), some (.int l4), some (.int l5), some (.int l6), some (.int l7), none, none, some (.int l10)] [] (u2 I 105 (((((64 * l2) + (16 * ((l3 + l5) - 1))) + l4) + l6) - 1).toNatClampNeg ((100 * (l1 + 1)) + 82)) J k := by
  refine (tt_f rfl).trans ?_
  refine (tt_al rfl).trans ?_
  refine (tt_f rfl).trans ?_
  refine (tt_gr rfl rfl).trans ?_
  refine (tt_f rfl).trans ?_
  refine tt_c.trans ?_
  refine (tt_f rfl).trans ?_
  refine (tt_il rfl).trans ?_
  refine (tt_f rfl).trans ?_
  refine tt_bi.trans ?_
  refine (tt_f rfl).trans ?_
  refine tt_c.trans ?_
  refine (tt_f rfl).trans ?_
  refine (tt_il rfl).trans ?_
  refine (tt_f rfl).trans ?_
  refine (tt_il rfl).trans ?_
  refine (tt_f rfl).trans ?_
  refine tt_bi.trans ?_
  refine (tt_f rfl).trans ?_
  refine tt_c.trans ?_
  refine (tt_f rfl).trans ?_
  refine tt_bi.trans ?_
  refine (tt_f rfl).trans ?_
  refine tt_bi.trans ?_
  refine (tt_f rfl).trans ?_
  refine tt_bi.trans ?_
  refine (tt_f rfl).trans ?_
  refine (tt_il rfl).trans ?_
  refine (tt_f rfl).trans ?_
  refine tt_bi.trans ?_
  refine (tt_f rfl).trans ?_
  refine (tt_il rfl).trans ?_
  refine (tt_f rfl).trans ?_
  refine tt_bi.trans ?_
  refine (tt_f rfl).trans ?_
  refine tt_c.trans ?_
  refine (tt_f rfl).trans ?_
  refine tt_bi.trans ?_
  refine (tt_f rfl).trans ?_
  refine tt_c.trans ?_
  refine (tt_f rfl).trans ?_
  refine (tt_il rfl).trans ?_
  refine (tt_f rfl).trans ?_
  refine tt_c.trans ?_
  refine (tt_f rfl).trans ?_
  refine tt_bi.trans ?_
  refine (tt_f rfl).trans ?_
  refine tt_bi.trans ?_
  refine (tt_f rfl).trans ?_
  refine tt_c.trans ?_
  refine (tt_f rfl).trans ?_
  refine tt_bi.trans ?_
  refine (tt_f rfl).trans ?_
  exact tt_pa rfl rfl hi1
theorem B135_282 {l1 : Int32} {l2 : Int32} {l3 : Int32} {l4 : Int32} {l5 : Int32} {l6 : Int32} {l7 : Int32} {l10 : Int32} (hz : zrt 2 (.int 1) = true) : zd S 135 282 [some (.ref 76), some (.int l1), some (.int l2), some (.int l3), some (.int l4), some (.int l5), some (.int l6), some (.int l7), none, none, some (.int l10)] [] I J k = some ((some (.int 1)), mk I J, k) := by
  refine (tt_f rfl).trans ?_
  refine tt_c.trans ?_
  exact tt_r1 rfl hz
end BL
