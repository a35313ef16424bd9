section BL
variable {S : Nat × (Nat → Int32)} {I : zI} {J : zJ} {k : zK}
/-! 136: EditionGridModel.findJump -/
theorem B136_0 {l1 : Int32}  : zd S 136 0 [some (.ref 76), some (.int l1), none, none, none, none] [] I J k = zd S 136 2 [some (.ref 76), some (.int l1), some (.int 0), none, none, none] [] I J k := by
  refine (tt_f rfl).trans ?_
  refine tt_c.trans ?_
  refine (tt_f rfl).trans ?_
  refine (tt_is rfl rfl).trans ?_
  rfl
theorem B136_2 {l1 : Int32} {l2 : Int32}  : zd S 136 2 [some (.ref 76), some (.int l1), some (.int l2), none, none, none] [] I J k = if 2 ≤ l2 then zd S 136 91 [some (.ref 76), some (.int l1), some (.int l2), none, none, none] [] I J k else zd S 136 7 [some (.ref 76), some (.int l1), some (.int l2), none, none, none] [] I J k := by
  refine (tt_fk rfl rfl).trans ?_
  refine (tt_il rfl).trans ?_
  refine (tt_f rfl).trans ?_
  refine tt_c.trans ?_
  refine (tt_f rfl).trans ?_
  exact tt_f2 (p := fun x y => y ≤ x) inferInstance rfl
theorem B136_7 {l1 : Int32} {l2 : Int32}  : zd S 136 7 [some (.ref 76), some (.int l1), some (.int l2), none, none, none] [] I J k = zd S 136 12 [some (.ref 76), some (.int l1), some (.int l2), some (.int (I 76 0)), none, none] [] I J k := by
  refine (tt_f rfl).trans ?_
  refine (tt_al rfl).trans ?_
  refine (tt_f rfl).trans ?_
  refine (tt_gi rfl rfl).trans ?_
  refine (tt_f rfl).trans ?_
  refine (tt_is rfl rfl).trans ?_
  rfl
theorem B136_12 {l1 : Int32} {l2 : Int32} {l3 : Int32} {o4 : Option Value}  : zd S 136 12 [some (.ref 76), some (.int l1), some (.int l2), some (.int l3), o4, none] [] I J k = if l3 < 1 then zd S 136 85 [some (.ref 76), some (.int l1), some (.int l2), some (.int l3), none, none] [] I J k else zd S 136 17 [some (.ref 76), some (.int l1), some (.int l2), some (.int l3), none, none] [] I J k := by
  refine (tt_fk rfl rfl).trans ?_
  refine (tt_il rfl).trans ?_
  refine (tt_f rfl).trans ?_
  refine tt_c.trans ?_
  refine (tt_f rfl).trans ?_
  exact tt_f2 (p := fun x y => x < y) inferInstance rfl
theorem B136_17 {l1 : Int32} {l2 : Int32} {l3 : Int32} (hi1 : zin l1 4 = true) : zd S 136 17 [some (.ref 76), some (.int l1), some (.int l2), some (.int l3), none, none] [] I J k = if l3 < (I 86 l1.toNatClampNeg) then zd S 136 85 [some (.ref 76), some (.int l1), some (.int l2), some (.int l3), none, none] [] I J k else zd S 136 27 [some (.ref 76), some (.int l1), some (.int l2), some (.int l3), none, none] [] I J k := by
  refine (tt_f rfl).trans ?_
  refine (tt_il rfl).trans ?_
  refine (tt_f rfl).trans ?_
  refine (tt_al rfl).trans ?_
  refine (tt_f rfl).trans ?_
  refine (tt_gr rfl rfl).trans ?_
  refine (tt_f rfl).trans ?_
  refine (tt_il rfl).trans ?_
  refine (tt_f rfl).trans ?_
  refine (tt_ga rfl rfl hi1).trans ?_
  refine (tt_f rfl).trans ?_
  exact tt_f2 (p := fun x y => x < y) inferInstance rfl
theorem B136_27 {l1 : Int32} {l2 : Int32} {l3 : Int32}  : zd S 136 27 [some (.ref 76), some (.int l1), some (.int l2), some (.int l3), none, none] [] I J k = zd S 136 30 [some (.ref 76), some (.int l1), some (.int l2), some (.int l3), some (.int 0), none] [] I J k := by
  refine (tt_f rfl).trans ?_
  refine tt_c.trans ?_
  refine (tt_f rfl).trans ?_
  refine (tt_is rfl rfl).trans ?_
  rfl
theorem B136_30 {l1 : Int32} {l2 : Int32} {l3 : Int32} {l4 : Int32} {o5 : Option Value}  : zd S 136 30 [some (.ref 76), some (.int l1), some (.int l2), some (.int l3), some (.int l4), o5] [] I J k = if (I 76 1) ≤ l4 then zd S 136 79 [some (.ref 76), some (.int l1), some (.int l2), some (.int l3), some (.int l4), none] [] I J k else zd S 136 39 [some (.ref 76), some (.int l1), some (.int l2), some (.int l3), some (.int l4), none] [] I J k := by
  refine (tt_fk rfl rfl).trans ?_
  refine (tt_il rfl).trans ?_
  refine (tt_f rfl).trans ?_
  refine (tt_al rfl).trans ?_
  refine (tt_f rfl).trans ?_
  refine (tt_gi rfl rfl).trans ?_
  refine (tt_f rfl).trans ?_
  exact tt_f2 (p := fun x y => y ≤ x) inferInstance rfl
theorem B136_39 {l1 : Int32} {l2 : Int32} {l3 : Int32} {l4 : Int32}  : zd S 136 39 [some (.ref 76), some (.int l1), some (.int l2), some (.int l3), some (.int l4), none] [] I J k = zd S 136 42 [some (.ref 76), some (.int l1), some (.int l2), some (.int l3), some (.int l4), some (.int 0)] [] I J k := by
  refine (tt_f rfl).trans ?_
  refine tt_c.trans ?_
  refine (tt_f rfl).trans ?_
  refine (tt_is rfl rfl).trans ?_
  rfl
theorem B136_42 {l1 : Int32} {l2 : Int32} {l3 : Int32} {l4 : Int32} {l5 : Int32}  : zd S 136 42 [some (.ref 76), some (.int l1), some (.int l2), some (.int l3), some (.int l4), some (.int l5)] [] I J k = if (I 76 0) ≤ l5 then zd S 136 73 [some (.ref 76), some (.int l1), some (.int l2), some (.int l3), some (.int l4), some (.int l5)] [] I J k else zd S 136 51 [some (.ref 76), some (.int l1), some (.int l2), some (.int l3), some (.int l4), some (.int l5)] [] I J k := by
  refine (tt_fk rfl rfl).trans ?_
  refine (tt_il rfl).trans ?_
  refine (tt_f rfl).trans ?_
  refine (tt_al rfl).trans ?_
  refine (tt_f rfl).trans ?_
  refine (tt_gi rfl rfl).trans ?_
  refine (tt_f rfl).trans ?_
  exact tt_f2 (p := fun x y => y ≤ x) inferInstance rfl
theorem B136_51 {l1 : Int32} {l2 : Int32} {l3 : Int32} {l4 : Int32} {l5 : Int32} {v1 : Int32} {I2 : zI} {J3 : zJ} (hb : Nat.ble k.1 (mBu 136).1 = true ∧ Nat.ble k.2 (mBu 136).2 = true) (hq : zq S 135 [.ref 76, .int l1, .int l2, .int l5, .int l4, .int l3] I J (some (.int v1)) I2 J3) : zd S 136 51 [some (.ref 76), some (.int l1), some (.int l2), some (.int l3), some (.int l4), some (.int l5)] [] I J k = zd S 136 62 [some (.ref 76), some (.int l1), some (.int l2), some (.int l3), some (.int l4), some (.int l5)] [.int v1] I2 J3 k := by
  refine (tt_f rfl).trans ?_
  refine (tt_al rfl).trans ?_
  refine (tt_f rfl).trans ?_
  refine (tt_il rfl).trans ?_
  refine (tt_f rfl).trans ?_
  refine (tt_il rfl).trans ?_
  refine (tt_f rfl).trans ?_
  refine (tt_il rfl).trans ?_
  refine (tt_f rfl).trans ?_
  refine (tt_il rfl).trans ?_
  refine (tt_f rfl).trans ?_
  refine (tt_il rfl).trans ?_
  exact tt_cv (As := [.int l1, .int l2, .int l5, .int l4, .int l3]) rfl hb.1 hb.2 rfl rfl rfl rfl rfl hq
theorem B136_62 {l1 : Int32} {l2 : Int32} {l3 : Int32} {l4 : Int32} {l5 : Int32} {t0 : Int32}  : zd S 136 62 [some (.ref 76), some (.int l1), some (.int l2), some (.int l3), some (.int l4), some (.int l5)] [.int t0] I J k = if t0 = 0 then zd S 136 67 [some (.ref 76), some (.int l1), some (.int l2), some (.int l3), some (.int l4), some (.int l5)] [] I J k else zd S 136 65 [some (.ref 76), some (.int l1), some (.int l2), some (.int l3), some (.int l4), some (.int l5)] [] I J k := by
  refine (tt_f rfl).trans ?_
  exact tt_f1 (p := fun x => x = 0) inferInstance rfl
theorem B136_65 {l1 : Int32} {l2 : Int32} {l3 : Int32} {l4 : Int32} {l5 : Int32} (hz : zrt 2 (.int 1) = true) : zd S 136 65 [some (.ref 76), some (.int l1), some (.int l2), some (.int l3), some (.int l4), some (.int l5)] [] I J k = some ((some (.int 1)), mk I J, k) := by
  refine (tt_f rfl).trans ?_
  refine tt_c.trans ?_
  exact tt_r1 rfl hz
theorem B136_67 {l1 : Int32} {l2 : Int32} {l3 : Int32} {l4 : Int32} {l5 : Int32}  : zd S 136 67 [some (.ref 76), some (.int l1), some (.int l2), some (.int l3), some (.int l4), some (.int l5)] [] I J k = zd S 136 42 [some (.ref 76), some (.int l1), some (.int l2), some (.int l3), some (.int l4), some (.int (l5 + 1))] [] I J k := by
  refine (tt_f rfl).trans ?_
  refine (tt_in rfl rfl).trans ?_
  refine (tt_f rfl).trans ?_
  refine tt_go.trans ?_
  rfl
theorem B136_73 {l1 : Int32} {l2 : Int32} {l3 : Int32} {l4 : Int32} {l5 : Int32}  : zd S 136 73 [some (.ref 76), some (.int l1), some (.int l2), some (.int l3), some (.int l4), some (.int l5)] [] I J k = zd S 136 30 [some (.ref 76), some (.int l1), some (.int l2), some (.int l3), some (.int (l4 + 1)), some (.int l5)] [] I J k := by
  refine (tt_f rfl).trans ?_
  refine (tt_in rfl rfl).trans ?_
  refine (tt_f rfl).trans ?_
  refine tt_go.trans ?_
  rfl
theorem B136_79 {l1 : Int32} {l2 : Int32} {l3 : Int32} {l4 : Int32}  : zd S 136 79 [some (.ref 76), some (.int l1), some (.int l2), some (.int l3), some (.int l4), none] [] I J k = zd S 136 12 [some (.ref 76), some (.int l1), some (.int l2), some (.int (l3 + (-1))), some (.int l4), none] [] I J k := by
  refine (tt_f rfl).trans ?_
  refine (tt_in rfl rfl).trans ?_
  refine (tt_f rfl).trans ?_
  refine tt_go.trans ?_
  rfl
theorem B136_85 {l1 : Int32} {l2 : Int32} {l3 : Int32}  : zd S 136 85 [some (.ref 76), some (.int l1), some (.int l2), some (.int l3), none, none] [] I J k = zd S 136 2 [some (.ref 76), some (.int l1), some (.int (l2 + 1)), none, none, none] [] I J k := by
  refine (tt_fk rfl rfl).trans ?_
  refine (tt_in rfl rfl).trans ?_
  refine (tt_f rfl).trans ?_
  refine tt_go.trans ?_
  rfl
theorem B136_91 {l1 : Int32} {l2 : Int32} (hz : zrt 2 (.int 0) = true) : zd S 136 91 [some (.ref 76), some (.int l1), some (.int l2), none, none, none] [] I J k = some ((some (.int 0)), mk I J, k) := by
  refine (tt_f rfl).trans ?_
  refine tt_c.trans ?_
  exact tt_r1 rfl hz
/-! 137: EditionGridModel.placeStory -/
theorem B137_0 {l1 : Int32} {v4 : Int32} {I5 : zI} {J6 : zJ} (hb : Nat.ble k.1 (mBu 137).1 = true ∧ Nat.ble k.2 (mBu 137).2 = true) (hi1 : zin l1 4 = true) (hi2 : zin l1 4 = true) (hi3 : zin l1 4 = true) (hq : zq S 130 [.ref 76, .int l1, .int 0, .int (I 94 l1.toNatClampNeg), .int (I 86 l1.toNatClampNeg), .int (I 87 l1.toNatClampNeg), .int 0] I J (some (.int v4)) I5 J6) : zd S 137 0 [some (.ref 76), some (.int l1), none] [] I J k = zd S 137 25 [some (.ref 76), some (.int l1), none] [.int v4] I5 J6 k := by
  refine (tt_f rfl).trans ?_
  refine (tt_al rfl).trans ?_
  refine (tt_f rfl).trans ?_
  refine (tt_il rfl).trans ?_
  refine (tt_f rfl).trans ?_
  refine tt_c.trans ?_
  refine (tt_f rfl).trans ?_
  refine (tt_al rfl).trans ?_
  refine (tt_f rfl).trans ?_
  refine (tt_gr rfl rfl).trans ?_
  refine (tt_f rfl).trans ?_
  refine (tt_il rfl).trans ?_
  refine (tt_f rfl).trans ?_
  refine (tt_ga rfl rfl hi1).trans ?_
  refine (tt_f rfl).trans ?_
  refine (tt_al rfl).trans ?_
  refine (tt_f rfl).trans ?_
  refine (tt_gr rfl rfl).trans ?_
  refine (tt_f rfl).trans ?_
  refine (tt_il rfl).trans ?_
  refine (tt_f rfl).trans ?_
  refine (tt_ga rfl rfl hi2).trans ?_
  refine (tt_f rfl).trans ?_
  refine (tt_al rfl).trans ?_
  refine (tt_f rfl).trans ?_
  refine (tt_gr rfl rfl).trans ?_
  refine (tt_f rfl).trans ?_
  refine (tt_il rfl).trans ?_
  refine (tt_f rfl).trans ?_
  refine (tt_ga rfl rfl hi3).trans ?_
  refine (tt_f rfl).trans ?_
  refine tt_c.trans ?_
  exact tt_cv (As := [.int l1, .int 0, .int (I 94 l1.toNatClampNeg), .int (I 86 l1.toNatClampNeg), .int (I 87 l1.toNatClampNeg), .int 0]) rfl hb.1 hb.2 rfl rfl rfl rfl rfl hq
theorem B137_25 {l1 : Int32} {t0 : Int32}  : zd S 137 25 [some (.ref 76), some (.int l1), none] [.int t0] I J k = if t0 = 0 then zd S 137 125 [some (.ref 76), some (.int l1), none] [] I J k else zd S 137 28 [some (.ref 76), some (.int l1), none] [] I J k := by
  refine (tt_f rfl).trans ?_
  exact tt_f1 (p := fun x => x = 0) inferInstance rfl
theorem B137_28 {l1 : Int32} {v4 : Int32} {I5 : zI} {J6 : zJ} (hb : Nat.ble k.1 (mBu 137).1 = true ∧ Nat.ble k.2 (mBu 137).2 = true) (hi1 : zin (I 76 45) 5 = true) (hi2 : zin l1 4 = true) (hi3 : zin l1 4 = true) (hq : zq S 126 [.ref 76, .int (I 76 45), .int ((I 109 (I 76 45).toNatClampNeg) - 1), .int (I 86 l1.toNatClampNeg), .int (I 87 l1.toNatClampNeg), .int 0] I J (some (.int v4)) I5 J6) : zd S 137 28 [some (.ref 76), some (.int l1), none] [] I J k = zd S 137 60 [some (.ref 76), some (.int l1), none] [.int v4] I5 J6 k := by
  refine (tt_f rfl).trans ?_
  refine (tt_al rfl).trans ?_
  refine (tt_f rfl).trans ?_
  refine (tt_al rfl).trans ?_
  refine (tt_f rfl).trans ?_
  refine (tt_gi rfl rfl).trans ?_
  refine (tt_f rfl).trans ?_
  refine (tt_al rfl).trans ?_
  refine (tt_f rfl).trans ?_
  refine (tt_gr rfl rfl).trans ?_
  refine (tt_f rfl).trans ?_
  refine (tt_al rfl).trans ?_
  refine (tt_f rfl).trans ?_
  refine (tt_gi rfl rfl).trans ?_
  refine (tt_f rfl).trans ?_
  refine (tt_ga rfl rfl hi1).trans ?_
  refine (tt_f rfl).trans ?_
  refine tt_c.trans ?_
  refine (tt_f rfl).trans ?_
  refine tt_bi.trans ?_
  refine (tt_f rfl).trans ?_
  refine (tt_al rfl).trans ?_
  refine (tt_f rfl).trans ?_
  refine (tt_gr rfl rfl).trans ?_
  refine (tt_f rfl).trans ?_
  refine (tt_il rfl).trans ?_
  refine (tt_f rfl).trans ?_
  refine (tt_ga rfl rfl hi2).trans ?_
  refine (tt_f rfl).trans ?_
  refine (tt_al rfl).trans ?_
  refine (tt_f rfl).trans ?_
  refine (tt_gr rfl rfl).trans ?_
  refine (tt_f rfl).trans ?_
  refine (tt_il rfl).trans ?_
  refine (tt_f rfl).trans ?_
  refine (tt_ga rfl rfl hi3).trans ?_
  refine (tt_f rfl).trans ?_
  refine tt_c.trans ?_
  exact tt_cv (As := [.int (I 76 45), .int ((I 109 (I 76 45).toNatClampNeg) - 1), .int (I 86 l1.toNatClampNeg), .int (I 87 l1.toNatClampNeg), .int 0]) rfl hb.1 hb.2 rfl rfl rfl rfl rfl hq
theorem B137_60 {l1 : Int32} {t0 : Int32}  : zd S 137 60 [some (.ref 76), some (.int l1), none] [.int t0] I J k = if t0 = 0 then zd S 137 86 [some (.ref 76), some (.int l1), none] [] I J k else zd S 137 63 [some (.ref 76), some (.int l1), none] [] I J k := by
  refine (tt_f rfl).trans ?_
  exact tt_f1 (p := fun x => x = 0) inferInstance rfl
theorem B137_63 {l1 : Int32} {v2 : Int32} {I3 : zI} {J4 : zJ} (hb : Nat.ble k.1 (mBu 137).1 = true ∧ Nat.ble k.2 (mBu 137).2 = true) (hi1 : zin l1 4 = true) (hq : zq S 127 [.ref 76, .int l1, .int 0, .int (I 94 l1.toNatClampNeg), .int (I 76 45)] I J (some (.int v2)) I3 J4) : zd S 137 63 [some (.ref 76), some (.int l1), none] [] I J k = zd S 137 79 [some (.ref 76), some (.int l1), none] [.int v2] I3 J4 k := by
  refine (tt_f rfl).trans ?_
  refine (tt_al rfl).trans ?_
  refine (tt_f rfl).trans ?_
  refine (tt_il rfl).trans ?_
  refine (tt_f rfl).trans ?_
  refine tt_c.trans ?_
  refine (tt_f rfl).trans ?_
  refine (tt_al rfl).trans ?_
  refine (tt_f rfl).trans ?_
  refine (tt_gr rfl rfl).trans ?_
  refine (tt_f rfl).trans ?_
  refine (tt_il rfl).trans ?_
  refine (tt_f rfl).trans ?_
  refine (tt_ga rfl rfl hi1).trans ?_
  refine (tt_f rfl).trans ?_
  refine (tt_al rfl).trans ?_
  refine (tt_f rfl).trans ?_
  refine (tt_gi rfl rfl).trans ?_
  exact tt_cv (As := [.int l1, .int 0, .int (I 94 l1.toNatClampNeg), .int (I 76 45)]) rfl hb.1 hb.2 rfl rfl rfl rfl rfl hq
theorem B137_79 {l1 : Int32} {t0 : Int32}  : zd S 137 79 [some (.ref 76), some (.int l1), none] [.int t0] I J k = if t0 = 0 then zd S 137 86 [some (.ref 76), some (.int l1), none] [] I J k else zd S 137 82 [some (.ref 76), some (.int l1), none] [] I J k := by
  refine (tt_f rfl).trans ?_
  exact tt_f1 (p := fun x => x = 0) inferInstance rfl
theorem B137_82 {l1 : Int32} {I5 : zI} {J6 : zJ} (hb : Nat.ble k.1 (mBu 137).1 = true ∧ Nat.ble k.2 (mBu 137).2 = true) (hi1 : zin (I 76 45) 5 = true) (hi2 : zin l1 4 = true) (hi3 : zin l1 4 = true) (hi4 : zin l1 4 = true) (hq : zq S 132 [.ref 76, .int l1, .int 0, .int (I 109 (I 76 45).toNatClampNeg), .int 0, .int (I 94 l1.toNatClampNeg), .int (I 86 l1.toNatClampNeg), .int (I 87 l1.toNatClampNeg)] I J none I5 J6) : zd S 137 82 [some (.ref 76), some (.int l1), none] [] I J k = zd S 137 122 [some (.ref 76), some (.int l1), some (.int 1)] [] I5 J6 k := by
  refine (tt_f rfl).trans ?_
  refine tt_c.trans ?_
  refine (tt_f rfl).trans ?_
  refine tt_go.trans ?_
  refine (tt_fk rfl rfl).trans ?_
  refine (tt_is rfl rfl).trans ?_
  refine (tt_f rfl).trans ?_
  refine (tt_al rfl).trans ?_
  refine (tt_f rfl).trans ?_
  refine (tt_il rfl).trans ?_
  refine (tt_f rfl).trans ?_
  refine tt_c.trans ?_
  refine (tt_f rfl).trans ?_
  refine (tt_al rfl).trans ?_
  refine (tt_f rfl).trans ?_
  refine (tt_gr rfl rfl).trans ?_
  refine (tt_f rfl).trans ?_
  refine (tt_al rfl).trans ?_
  refine (tt_f rfl).trans ?_
  refine (tt_gi rfl rfl).trans ?_
  refine (tt_f rfl).trans ?_
  refine (tt_ga rfl rfl hi1).trans ?_
  refine (tt_f rfl).trans ?_
  refine tt_c.trans ?_
  refine (tt_f rfl).trans ?_
  refine (tt_al rfl).trans ?_
  refine (tt_f rfl).trans ?_
  refine (tt_gr rfl rfl).trans ?_
  refine (tt_f rfl).trans ?_
  refine (tt_il rfl).trans ?_
  refine (tt_f rfl).trans ?_
  refine (tt_ga rfl rfl hi2).trans ?_
  refine (tt_f rfl).trans ?_
  refine (tt_al rfl).trans ?_
  refine (tt_f rfl).trans ?_
  refine (tt_gr rfl rfl).trans ?_
  refine (tt_f rfl).trans ?_
  refine (tt_il rfl).trans ?_
  refine (tt_f rfl).trans ?_
  refine (tt_ga rfl rfl hi3).trans ?_
  refine (tt_f rfl).trans ?_
  refine (tt_al rfl).trans ?_
  refine (tt_f rfl).trans ?_
  refine (tt_gr rfl rfl).trans ?_
  refine (tt_f rfl).trans ?_
  refine (tt_il rfl).trans ?_
  refine (tt_f rfl).trans ?_
  refine (tt_ga rfl rfl hi4).trans ?_
  exact tt_cv (As := [.int l1, .int 0, .int (I 109 (I 76 45).toNatClampNeg), .int 0, .int (I 94 l1.toNatClampNeg), .int (I 86 l1.toNatClampNeg), .int (I 87 l1.toNatClampNeg)]) rfl hb.1 hb.2 rfl rfl rfl rfl rfl hq
theorem B137_86 {l1 : Int32} {I5 : zI} {J6 : zJ} (hb : Nat.ble k.1 (mBu 137).1 = true ∧ Nat.ble k.2 (mBu 137).2 = true) (hi1 : zin (I 76 45) 5 = true) (hi2 : zin l1 4 = true) (hi3 : zin l1 4 = true) (hi4 : zin l1 4 = true) (hq : zq S 132 [.ref 76, .int l1, .int 0, .int (I 109 (I 76 45).toNatClampNeg), .int 0, .int (I 94 l1.toNatClampNeg), .int (I 86 l1.toNatClampNeg), .int (I 87 l1.toNatClampNeg)] I J none I5 J6) : zd S 137 86 [some (.ref 76), some (.int l1), none] [] I J k = zd S 137 122 [some (.ref 76), some (.int l1), some (.int 0)] [] I5 J6 k := by
  refine (tt_fk rfl rfl).trans ?_
  refine tt_c.trans ?_
  refine (tt_fk rfl rfl).trans ?_
  refine (tt_is rfl rfl).trans ?_
  refine (tt_f rfl).trans ?_
  refine (tt_al rfl).trans ?_
  refine (tt_f rfl).trans ?_
  refine (tt_il rfl).trans ?_
  refine (tt_f rfl).trans ?_
  refine tt_c.trans ?_
  refine (tt_f rfl).trans ?_
  refine (tt_al rfl).trans ?_
  refine (tt_f rfl).trans ?_
  refine (tt_gr rfl rfl).trans ?_
  refine (tt_f rfl).trans ?_
  refine (tt_al rfl).trans ?_
  refine (tt_f rfl).trans ?_
  refine (tt_gi rfl rfl).trans ?_
  refine (tt_f rfl).trans ?_
  refine (tt_ga rfl rfl hi1).trans ?_
  refine (tt_f rfl).trans ?_
  refine tt_c.trans ?_
  refine (tt_f rfl).trans ?_
  refine (tt_al rfl).trans ?_
  refine (tt_f rfl).trans ?_
  refine (tt_gr rfl rfl).trans ?_
  refine (tt_f rfl).trans ?_
  refine (tt_il rfl).trans ?_
  refine (tt_f rfl).trans ?_
  refine (tt_ga rfl rfl hi2).trans ?_
  refine (tt_f rfl).trans ?_
  refine (tt_al rfl).trans ?_
  refine (tt_f rfl).trans ?_
  refine (tt_gr rfl rfl).trans ?_
  refine (tt_f rfl).trans ?_
  refine (tt_il rfl).trans ?_
  refine (tt_f rfl).trans ?_
  refine (tt_ga rfl rfl hi3).trans ?_
  refine (tt_f rfl).trans ?_
  refine (tt_al rfl).trans ?_
  refine (tt_f rfl).trans ?_
  refine (tt_gr rfl rfl).trans ?_
  refine (tt_f rfl).trans ?_
  refine (tt_il rfl).trans ?_
  refine (tt_f rfl).trans ?_
  refine (tt_ga rfl rfl hi4).trans ?_
  exact tt_cv (As := [.int l1, .int 0, .int (I 109 (I 76 45).toNatClampNeg), .int 0, .int (I 94 l1.toNatClampNeg), .int (I 86 l1.toNatClampNeg), .int (I 87 l1.toNatClampNeg)]) rfl hb.1 hb.2 rfl rfl rfl rfl rfl hq
theorem B137_122 {l1 : Int32} {l2 : Int32}  : zd S 137 122 [some (.ref 76), some (.int l1), some (.int l2)] [] I J k = some (none, mk I J, k) := by
  refine (tt_f rfl).trans ?_
  refine tt_go.trans ?_
  exact tt_rv rfl
theorem B137_125 {l1 : Int32} {v1 : Int32} {I2 : zI} {J3 : zJ} (hb : Nat.ble k.1 (mBu 137).1 = true ∧ Nat.ble k.2 (mBu 137).2 = true) (hq : zq S 136 [.ref 76, .int l1] I J (some (.int v1)) I2 J3) : zd S 137 125 [some (.ref 76), some (.int l1), none] [] I J k = zd S 137 130 [some (.ref 76), some (.int l1), none] [.int v1] I2 J3 k := by
  refine (tt_f rfl).trans ?_
  refine (tt_al rfl).trans ?_
  refine (tt_f rfl).trans ?_
  refine (tt_il rfl).trans ?_
  exact tt_cv (As := [.int l1]) rfl hb.1 hb.2 rfl rfl rfl rfl rfl hq
theorem B137_130 {l1 : Int32} {t0 : Int32}  : zd S 137 130 [some (.ref 76), some (.int l1), none] [.int t0] I J k = if ¬ t0 = 0 then zd S 137 140 [some (.ref 76), some (.int l1), none] [] I J k else zd S 137 133 [some (.ref 76), some (.int l1), none] [] I J k := by
  refine (tt_f rfl).trans ?_
  exact tt_f1 (p := fun x => ¬ x = 0) inferInstance rfl
theorem B137_133 {l1 : Int32} (hi1 : zin l1 4 = true) : zd S 137 133 [some (.ref 76), some (.int l1), none] [] I J k = zd S 137 140 [some (.ref 76), some (.int l1), none] [] (u2 I 93 l1.toNatClampNeg 3) J k := by
  refine (tt_f rfl).trans ?_
  refine (tt_al rfl).trans ?_
  refine (tt_f rfl).trans ?_
  refine (tt_gr rfl rfl).trans ?_
  refine (tt_f rfl).trans ?_
  refine (tt_il rfl).trans ?_
  refine (tt_f rfl).trans ?_
  refine tt_c.trans ?_
  refine (tt_f rfl).trans ?_
  exact tt_pa rfl rfl hi1
theorem B137_140 {l1 : Int32}  : zd S 137 140 [some (.ref 76), some (.int l1), none] [] I J k = some (none, mk I J, k) := by
  exact tt_rv rfl
/-! 138: EditionGridModel.plan -/
theorem B138_0   : zd S 138 0 [some (.ref 76), none, none] [] I J k = if ¬ (I 76 13) = 0 then zd S 138 9 [some (.ref 76), none, none] [] I J k else zd S 138 7 [some (.ref 76), none, none] [] I J k := by
  refine (tt_f rfl).trans ?_
  refine (tt_al rfl).trans ?_
  refine (tt_f rfl).trans ?_
  refine (tt_gi rfl rfl).trans ?_
  refine (tt_f rfl).trans ?_
  exact tt_f1 (p := fun x => ¬ x = 0) inferInstance rfl
theorem B138_7   : zd S 138 7 [some (.ref 76), none, none] [] I J k = some ((some (.int (-1))), mk I J, k) := by
  refine (tt_f rfl).trans ?_
  refine tt_c.trans ?_
  exact tt_r1 rfl rfl
theorem B138_9 {I1 : zI} {J2 : zJ} (hb : Nat.ble k.1 (mBu 138).1 = true ∧ Nat.ble k.2 (mBu 138).2 = true) (hq : zq S 115 [.ref 76] I J none I1 J2) : zd S 138 9 [some (.ref 76), none, none] [] I J k = zd S 138 13 [some (.ref 76), none, none] [] I1 J2 k := by
  refine (tt_f rfl).trans ?_
  refine (tt_al rfl).trans ?_
  exact tt_cv (As := []) rfl hb.1 hb.2 rfl rfl rfl rfl rfl hq
theorem B138_13   : zd S 138 13 [some (.ref 76), none, none] [] I J k = zd S 138 18 [some (.ref 76), none, none] [] (u2 I 76 24 1) J k := by
  refine (tt_f rfl).trans ?_
  refine (tt_al rfl).trans ?_
  refine (tt_f rfl).trans ?_
  refine tt_c.trans ?_
  refine (tt_f rfl).trans ?_
  exact tt_pi rfl rfl (by decide)
theorem B138_18   : zd S 138 18 [some (.ref 76), none, none] [] I J k = zd S 138 20 [some (.ref 76), some (.int 0), none] [] I J k := by
  refine (tt_f rfl).trans ?_
  refine tt_c.trans ?_
  refine (tt_f rfl).trans ?_
  refine (tt_is rfl rfl).trans ?_
  rfl
theorem B138_20 {l1 : Int32}  : zd S 138 20 [some (.ref 76), some (.int l1), none] [] I J k = if 26 ≤ l1 then zd S 138 44 [some (.ref 76), some (.int l1), none] [] I J k else zd S 138 26 [some (.ref 76), some (.int l1), none] [] I J k := by
  refine (tt_fk rfl rfl).trans ?_
  refine (tt_il rfl).trans ?_
  refine (tt_f rfl).trans ?_
  refine tt_c.trans ?_
  refine (tt_f rfl).trans ?_
  exact tt_f2 (p := fun x y => y ≤ x) inferInstance rfl
theorem B138_26 {l1 : Int32} (hi1 : zin l1 26 = true) (hi2 : zin l1 26 = true) : zd S 138 26 [some (.ref 76), some (.int l1), none] [] I J k = zd S 138 38 [some (.ref 76), some (.int l1), none] [] (u2 I 78 l1.toNatClampNeg (I 77 l1.toNatClampNeg)) J k := by
  refine (tt_f rfl).trans ?_
  refine (tt_al rfl).trans ?_
  refine (tt_f rfl).trans ?_
  refine (tt_gr rfl rfl).trans ?_
  refine (tt_f rfl).trans ?_
  refine (tt_il rfl).trans ?_
  refine (tt_f rfl).trans ?_
  refine (tt_al rfl).trans ?_
  refine (tt_f rfl).trans ?_
  refine (tt_gr rfl rfl).trans ?_
  refine (tt_f rfl).trans ?_
  refine (tt_il rfl).trans ?_
  refine (tt_f rfl).trans ?_
  refine (tt_ga rfl rfl hi1).trans ?_
  refine (tt_f rfl).trans ?_
  exact tt_pa rfl rfl hi2
theorem B138_38 {l1 : Int32}  : zd S 138 38 [some (.ref 76), some (.int l1), none] [] I J k = zd S 138 20 [some (.ref 76), some (.int (l1 + 1)), none] [] I J k := by
  refine (tt_f rfl).trans ?_
  refine (tt_in rfl rfl).trans ?_
  refine (tt_f rfl).trans ?_
  refine tt_go.trans ?_
  rfl
theorem B138_44 {l1 : Int32}  : zd S 138 44 [some (.ref 76), some (.int l1), none] [] I J k = zd S 138 46 [some (.ref 76), some (.int 0), none] [] I J k := by
  refine (tt_f rfl).trans ?_
  refine tt_c.trans ?_
  refine (tt_f rfl).trans ?_
  refine (tt_is rfl rfl).trans ?_
  rfl
theorem B138_46 {l1 : Int32}  : zd S 138 46 [some (.ref 76), some (.int l1), none] [] I J k = if (I 76 13) ≤ l1 then zd S 138 65 [some (.ref 76), some (.int l1), none] [] I J k else zd S 138 54 [some (.ref 76), some (.int l1), none] [] I J k := by
  refine (tt_fk rfl rfl).trans ?_
  refine (tt_il rfl).trans ?_
  refine (tt_f rfl).trans ?_
  refine (tt_al rfl).trans ?_
  refine (tt_f rfl).trans ?_
  refine (tt_gi rfl rfl).trans ?_
  refine (tt_f rfl).trans ?_
  exact tt_f2 (p := fun x y => y ≤ x) inferInstance rfl
theorem B138_54 {l1 : Int32} {I1 : zI} {J2 : zJ} (hb : Nat.ble k.1 (mBu 138).1 = true ∧ Nat.ble k.2 (mBu 138).2 = true) (hq : zq S 124 [.ref 76, .int l1] I J none I1 J2) : zd S 138 54 [some (.ref 76), some (.int l1), none] [] I J k = zd S 138 59 [some (.ref 76), some (.int l1), none] [] I1 J2 k := by
  refine (tt_f rfl).trans ?_
  refine (tt_al rfl).trans ?_
  refine (tt_f rfl).trans ?_
  refine (tt_il rfl).trans ?_
  exact tt_cv (As := [.int l1]) rfl hb.1 hb.2 rfl rfl rfl rfl rfl hq
theorem B138_59 {l1 : Int32}  : zd S 138 59 [some (.ref 76), some (.int l1), none] [] I J k = zd S 138 46 [some (.ref 76), some (.int (l1 + 1)), none] [] I J k := by
  refine (tt_f rfl).trans ?_
  refine (tt_in rfl rfl).trans ?_
  refine (tt_f rfl).trans ?_
  refine tt_go.trans ?_
  rfl
theorem B138_65 {l1 : Int32}  : zd S 138 65 [some (.ref 76), some (.int l1), none] [] I J k = zd S 138 68 [some (.ref 76), some (.int 9), none] [] I J k := by
  refine (tt_f rfl).trans ?_
  refine tt_c.trans ?_
  refine (tt_f rfl).trans ?_
  refine (tt_is rfl rfl).trans ?_
  rfl
theorem B138_68 {l1 : Int32} {o2 : Option Value}  : zd S 138 68 [some (.ref 76), some (.int l1), o2] [] I J k = if l1 < 0 then zd S 138 118 [some (.ref 76), some (.int l1), none] [] I J k else zd S 138 72 [some (.ref 76), some (.int l1), none] [] I J k := by
  refine (tt_fk rfl rfl).trans ?_
  refine (tt_il rfl).trans ?_
  refine (tt_f rfl).trans ?_
  exact tt_f1 (p := fun x => x < 0) inferInstance rfl
theorem B138_72 {l1 : Int32}  : zd S 138 72 [some (.ref 76), some (.int l1), none] [] I J k = zd S 138 74 [some (.ref 76), some (.int l1), some (.int 0)] [] I J k := by
  refine (tt_f rfl).trans ?_
  refine tt_c.trans ?_
  refine (tt_f rfl).trans ?_
  refine (tt_is rfl rfl).trans ?_
  rfl
theorem B138_74 {l1 : Int32} {l2 : Int32}  : zd S 138 74 [some (.ref 76), some (.int l1), some (.int l2)] [] I J k = if (I 76 13) ≤ l2 then zd S 138 112 [some (.ref 76), some (.int l1), some (.int l2)] [] I J k else zd S 138 82 [some (.ref 76), some (.int l1), some (.int l2)] [] I J k := by
  refine (tt_fk rfl rfl).trans ?_
  refine (tt_il rfl).trans ?_
  refine (tt_f rfl).trans ?_
  refine (tt_al rfl).trans ?_
  refine (tt_f rfl).trans ?_
  refine (tt_gi rfl rfl).trans ?_
  refine (tt_f rfl).trans ?_
  exact tt_f2 (p := fun x y => y ≤ x) inferInstance rfl
theorem B138_82 {l1 : Int32} {l2 : Int32} (hi1 : zin l2 4 = true) : zd S 138 82 [some (.ref 76), some (.int l1), some (.int l2)] [] I J k = if ¬ (I 85 l2.toNatClampNeg) = l1 then zd S 138 106 [some (.ref 76), some (.int l1), some (.int l2)] [] I J k else zd S 138 92 [some (.ref 76), some (.int l1), some (.int l2)] [] I J k := by
  refine (tt_f rfl).trans ?_
  refine (tt_al rfl).trans ?_
  refine (tt_f rfl).trans ?_
  refine (tt_gr rfl rfl).trans ?_
  refine (tt_f rfl).trans ?_
  refine (tt_il rfl).trans ?_
  refine (tt_f rfl).trans ?_
  refine (tt_ga rfl rfl hi1).trans ?_
  refine (tt_f rfl).trans ?_
  refine (tt_il rfl).trans ?_
  refine (tt_f rfl).trans ?_
  exact tt_f2 (p := fun x y => ¬ x = y) inferInstance rfl
theorem B138_92 {l1 : Int32} {l2 : Int32} (hi1 : zin l2 4 = true) : zd S 138 92 [some (.ref 76), some (.int l1), some (.int l2)] [] I J k = if ¬ (I 93 l2.toNatClampNeg) = 0 then zd S 138 106 [some (.ref 76), some (.int l1), some (.int l2)] [] I J k else zd S 138 101 [some (.ref 76), some (.int l1), some (.int l2)] [] I J k := by
  refine (tt_f rfl).trans ?_
  refine (tt_al rfl).trans ?_
  refine (tt_f rfl).trans ?_
  refine (tt_gr rfl rfl).trans ?_
  refine (tt_f rfl).trans ?_
  refine (tt_il rfl).trans ?_
  refine (tt_f rfl).trans ?_
  refine (tt_ga rfl rfl hi1).trans ?_
  refine (tt_f rfl).trans ?_
  exact tt_f1 (p := fun x => ¬ x = 0) inferInstance rfl
theorem B138_101 {l1 : Int32} {l2 : Int32} {I1 : zI} {J2 : zJ} (hb : Nat.ble k.1 (mBu 138).1 = true ∧ Nat.ble k.2 (mBu 138).2 = true) (hq : zq S 137 [.ref 76, .int l2] I J none I1 J2) : zd S 138 101 [some (.ref 76), some (.int l1), some (.int l2)] [] I J k = zd S 138 106 [some (.ref 76), some (.int l1), some (.int l2)] [] I1 J2 k := by
  refine (tt_f rfl).trans ?_
  refine (tt_al rfl).trans ?_
  refine (tt_f rfl).trans ?_
  refine (tt_il rfl).trans ?_
  exact tt_cv (As := [.int l2]) rfl hb.1 hb.2 rfl rfl rfl rfl rfl hq
theorem B138_106 {l1 : Int32} {l2 : Int32}  : zd S 138 106 [some (.ref 76), some (.int l1), some (.int l2)] [] I J k = zd S 138 74 [some (.ref 76), some (.int l1), some (.int (l2 + 1))] [] I J k := by
  refine (tt_fk rfl rfl).trans ?_
  refine (tt_in rfl rfl).trans ?_
  refine (tt_f rfl).trans ?_
  refine tt_go.trans ?_
  rfl
theorem B138_112 {l1 : Int32} {l2 : Int32}  : zd S 138 112 [some (.ref 76), some (.int l1), some (.int l2)] [] I J k = zd S 138 68 [some (.ref 76), some (.int (l1 + (-1))), some (.int l2)] [] I J k := by
  refine (tt_f rfl).trans ?_
  refine (tt_in rfl rfl).trans ?_
  refine (tt_f rfl).trans ?_
  refine tt_go.trans ?_
  rfl
theorem B138_118 {l1 : Int32}  : zd S 138 118 [some (.ref 76), some (.int l1), none] [] I J k = zd S 138 122 [some (.ref 76), some (.int 0), some (.int 0)] [] I J k := by
  refine (tt_f rfl).trans ?_
  refine tt_c.trans ?_
  refine (tt_f rfl).trans ?_
  refine (tt_is rfl rfl).trans ?_
  refine (tt_f rfl).trans ?_
  refine tt_c.trans ?_
  refine (tt_f rfl).trans ?_
  refine (tt_is rfl rfl).trans ?_
  rfl
theorem B138_122 {l1 : Int32} {l2 : Int32}  : zd S 138 122 [some (.ref 76), some (.int l1), some (.int l2)] [] I J k = if (I 76 13) ≤ l2 then zd S 138 153 [some (.ref 76), some (.int l1), some (.int l2)] [] I J k else zd S 138 130 [some (.ref 76), some (.int l1), some (.int l2)] [] I J k := by
  refine (tt_fk rfl rfl).trans ?_
  refine (tt_il rfl).trans ?_
  refine (tt_f rfl).trans ?_
  refine (tt_al rfl).trans ?_
  refine (tt_f rfl).trans ?_
  refine (tt_gi rfl rfl).trans ?_
  refine (tt_f rfl).trans ?_
  exact tt_f2 (p := fun x y => y ≤ x) inferInstance rfl
theorem B138_130 {l1 : Int32} {l2 : Int32} (hi1 : zin l2 4 = true) : zd S 138 130 [some (.ref 76), some (.int l1), some (.int l2)] [] I J k = if ¬ (I 93 l2.toNatClampNeg) = 0 then zd S 138 145 [some (.ref 76), some (.int l1), some (.int l2)] [] I J k else zd S 138 139 [some (.ref 76), some (.int l1), some (.int l2)] [] I J k := by
  refine (tt_f rfl).trans ?_
  refine (tt_al rfl).trans ?_
  refine (tt_f rfl).trans ?_
  refine (tt_gr rfl rfl).trans ?_
  refine (tt_f rfl).trans ?_
  refine (tt_il rfl).trans ?_
  refine (tt_f rfl).trans ?_
  refine (tt_ga rfl rfl hi1).trans ?_
  refine (tt_f rfl).trans ?_
  exact tt_f1 (p := fun x => ¬ x = 0) inferInstance rfl
theorem B138_139 {l1 : Int32} {l2 : Int32}  : zd S 138 139 [some (.ref 76), some (.int l1), some (.int l2)] [] I J k = zd S 138 122 [some (.ref 76), some (.int (l1 + 1)), some (.int (l2 + 1))] [] I J k := by
  refine (tt_f rfl).trans ?_
  refine (tt_il rfl).trans ?_
  refine (tt_f rfl).trans ?_
  refine tt_c.trans ?_
  refine (tt_f rfl).trans ?_
  refine tt_bi.trans ?_
  refine (tt_f rfl).trans ?_
  refine tt_go.trans ?_
  refine (tt_fk rfl rfl).trans ?_
  refine (tt_is rfl rfl).trans ?_
  refine (tt_f rfl).trans ?_
  refine (tt_in rfl rfl).trans ?_
  refine (tt_f rfl).trans ?_
  refine tt_go.trans ?_
  rfl
theorem B138_145 {l1 : Int32} {l2 : Int32}  : zd S 138 145 [some (.ref 76), some (.int l1), some (.int l2)] [] I J k = zd S 138 122 [some (.ref 76), some (.int l1), some (.int (l2 + 1))] [] I J k := by
  refine (tt_f rfl).trans ?_
  refine (tt_il rfl).trans ?_
  refine (tt_fk rfl rfl).trans ?_
  refine (tt_is rfl rfl).trans ?_
  refine (tt_f rfl).trans ?_
  refine (tt_in rfl rfl).trans ?_
  refine (tt_f rfl).trans ?_
  refine tt_go.trans ?_
  rfl
theorem B138_153 {l1 : Int32} {l2 : Int32}  : zd S 138 153 [some (.ref 76), some (.int l1), some (.int l2)] [] I J k = some ((some (.int l1)), mk I J, k) := by
  refine (tt_f rfl).trans ?_
  refine (tt_il rfl).trans ?_
  exact tt_r1 rfl rfl
/-! 139: EditionGridModel.isPlanned -/
theorem B139_0 {l1 : Int32}  : zd S 139 0 [some (.ref 76), some (.int l1)] [] I J k = if (I 76 24) = 0 then zd S 139 23 [some (.ref 76), some (.int l1)] [] I J k else zd S 139 7 [some (.ref 76), some (.int l1)] [] I J k := by
  refine (tt_f rfl).trans ?_
  refine (tt_al rfl).trans ?_
  refine (tt_f rfl).trans ?_
  refine (tt_gi rfl rfl).trans ?_
  refine (tt_f rfl).trans ?_
  exact tt_f1 (p := fun x => x = 0) inferInstance rfl
theorem B139_7 {l1 : Int32}  : zd S 139 7 [some (.ref 76), some (.int l1)] [] I J k = if l1 < 0 then zd S 139 23 [some (.ref 76), some (.int l1)] [] I J k else zd S 139 11 [some (.ref 76), some (.int l1)] [] I J k := by
  refine (tt_f rfl).trans ?_
  refine (tt_il rfl).trans ?_
  refine (tt_f rfl).trans ?_
  exact tt_f1 (p := fun x => x < 0) inferInstance rfl
theorem B139_11 {l1 : Int32}  : zd S 139 11 [some (.ref 76), some (.int l1)] [] I J k = if (I 76 13) ≤ l1 then zd S 139 23 [some (.ref 76), some (.int l1)] [] I J k else zd S 139 19 [some (.ref 76), some (.int l1)] [] I J k := by
  refine (tt_f rfl).trans ?_
  refine (tt_il rfl).trans ?_
  refine (tt_f rfl).trans ?_
  refine (tt_al rfl).trans ?_
  refine (tt_f rfl).trans ?_
  refine (tt_gi rfl rfl).trans ?_
  refine (tt_f rfl).trans ?_
  exact tt_f2 (p := fun x y => y ≤ x) inferInstance rfl
theorem B139_19 {l1 : Int32} (hz : zrt 2 (.int 1) = true) : zd S 139 19 [some (.ref 76), some (.int l1)] [] I J k = some ((some (.int 1)), mk I J, k) := by
  refine (tt_f rfl).trans ?_
  refine tt_c.trans ?_
  refine (tt_f rfl).trans ?_
  refine tt_go.trans ?_
  exact tt_r1 rfl hz
theorem B139_23 {l1 : Int32} (hz : zrt 2 (.int 0) = true) : zd S 139 23 [some (.ref 76), some (.int l1)] [] I J k = some ((some (.int 0)), mk I J, k) := by
  refine (tt_fk rfl rfl).trans ?_
  refine tt_c.trans ?_
  exact tt_r1 rfl hz
/-! 140: EditionGridModel.held -/
theorem B140_0 {l1 : Int32} {v1 : Int32} {I2 : zI} {J3 : zJ} (hb : Nat.ble k.1 (mBu 140).1 = true ∧ Nat.ble k.2 (mBu 140).2 = true) (hq : zq S 139 [.ref 76, .int l1] I J (some (.int v1)) I2 J3) : zd S 140 0 [some (.ref 76), some (.int l1)] [] I J k = zd S 140 5 [some (.ref 76), some (.int l1)] [.int v1] I2 J3 k := by
  refine (tt_f rfl).trans ?_
  refine (tt_al rfl).trans ?_
  refine (tt_f rfl).trans ?_
  refine (tt_il rfl).trans ?_
  exact tt_cv (As := [.int l1]) rfl hb.1 hb.2 rfl rfl rfl rfl rfl hq
theorem B140_5 {l1 : Int32} {t0 : Int32}  : zd S 140 5 [some (.ref 76), some (.int l1)] [.int t0] I J k = if t0 = 0 then zd S 140 17 [some (.ref 76), some (.int l1)] [] I J k else zd S 140 8 [some (.ref 76), some (.int l1)] [] I J k := by
  refine (tt_f rfl).trans ?_
  exact tt_f1 (p := fun x => x = 0) inferInstance rfl
theorem B140_8 {l1 : Int32} (hi1 : zin l1 4 = true) : zd S 140 8 [some (.ref 76), some (.int l1)] [] I J k = some ((some (.int (I 93 l1.toNatClampNeg))), mk I J, k) := by
  refine (tt_f rfl).trans ?_
  refine (tt_al rfl).trans ?_
  refine (tt_f rfl).trans ?_
  refine (tt_gr rfl rfl).trans ?_
  refine (tt_f rfl).trans ?_
  refine (tt_il rfl).trans ?_
  refine (tt_f rfl).trans ?_
  refine (tt_ga rfl rfl hi1).trans ?_
  refine (tt_f rfl).trans ?_
  refine tt_go.trans ?_
  exact tt_r1 rfl rfl
theorem B140_17 {l1 : Int32}  : zd S 140 17 [some (.ref 76), some (.int l1)] [] I J k = some ((some (.int (-1))), mk I J, k) := by
  refine (tt_f rfl).trans ?_
  refine tt_c.trans ?_
  exact tt_r1 rfl rfl
/-! 141: EditionGridModel.lines -/
theorem B141_0 {l1 : Int32} {v1 : Int32} {I2 : zI} {J3 : zJ} (hb : Nat.ble k.1 (mBu 141).1 = true ∧ Nat.ble k.2 (mBu 141).2 = true) (hq : zq S 139 [.ref 76, .int l1] I J (some (.int v1)) I2 J3) : zd S 141 0 [some (.ref 76), some (.int l1)] [] I J k = zd S 141 5 [some (.ref 76), some (.int l1)] [.int v1] I2 J3 k := by
  refine (tt_f rfl).trans ?_
  refine (tt_al rfl).trans ?_
  refine (tt_f rfl).trans ?_
  refine (tt_il rfl).trans ?_
  exact tt_cv (As := [.int l1]) rfl hb.1 hb.2 rfl rfl rfl rfl rfl hq
theorem B141_5 {l1 : Int32} {t0 : Int32}  : zd S 141 5 [some (.ref 76), some (.int l1)] [.int t0] I J k = if t0 = 0 then zd S 141 17 [some (.ref 76), some (.int l1)] [] I J k else zd S 141 8 [some (.ref 76), some (.int l1)] [] I J k := by
  refine (tt_f rfl).trans ?_
  exact tt_f1 (p := fun x => x = 0) inferInstance rfl
theorem B141_8 {l1 : Int32} (hi1 : zin l1 4 = true) : zd S 141 8 [some (.ref 76), some (.int l1)] [] I J k = some ((some (.int (I 94 l1.toNatClampNeg))), mk I J, k) := by
  refine (tt_f rfl).trans ?_
  refine (tt_al rfl).trans ?_
  refine (tt_f rfl).trans ?_
  refine (tt_gr rfl rfl).trans ?_
  refine (tt_f rfl).trans ?_
  refine (tt_il rfl).trans ?_
  refine (tt_f rfl).trans ?_
  refine (tt_ga rfl rfl hi1).trans ?_
  refine (tt_f rfl).trans ?_
  refine tt_go.trans ?_
  exact tt_r1 rfl rfl
theorem B141_17 {l1 : Int32}  : zd S 141 17 [some (.ref 76), some (.int l1)] [] I J k = some ((some (.int (-1))), mk I J, k) := by
  refine (tt_f rfl).trans ?_
  refine tt_c.trans ?_
  exact tt_r1 rfl rfl
/-! 142: EditionGridModel.cost -/
theorem B142_0 {l1 : Int32} {l2 : Int32} {v1 : Int32} {I2 : zI} {J3 : zJ} (hb : Nat.ble k.1 (mBu 142).1 = true ∧ Nat.ble k.2 (mBu 142).2 = true) (hq : zq S 139 [.ref 76, .int l1] I J (some (.int v1)) I2 J3) : zd S 142 0 [some (.ref 76), some (.int l1), some (.int l2)] [] I J k = zd S 142 5 [some (.ref 76), some (.int l1), some (.int l2)] [.int v1] I2 J3 k := by
  refine (tt_f rfl).trans ?_
  refine (tt_al rfl).trans ?_
  refine (tt_f rfl).trans ?_
  refine (tt_il rfl).trans ?_
  exact tt_cv (As := [.int l1]) rfl hb.1 hb.2 rfl rfl rfl rfl rfl hq
theorem B142_5 {l1 : Int32} {l2 : Int32} {t0 : Int32}  : zd S 142 5 [some (.ref 76), some (.int l1), some (.int l2)] [.int t0] I J k = if t0 = 0 then zd S 142 35 [some (.ref 76), some (.int l1), some (.int l2)] [] I J k else zd S 142 8 [some (.ref 76), some (.int l1), some (.int l2)] [] I J k := by
  refine (tt_f rfl).trans ?_
  exact tt_f1 (p := fun x => x = 0) inferInstance rfl
theorem B142_8 {l1 : Int32} {l2 : Int32}  : zd S 142 8 [some (.ref 76), some (.int l1), some (.int l2)] [] I J k = if l2 < 0 then zd S 142 35 [some (.ref 76), some (.int l1), some (.int l2)] [] I J k else zd S 142 12 [some (.ref 76), some (.int l1), some (.int l2)] [] I J k := by
  refine (tt_f rfl).trans ?_
  refine (tt_il rfl).trans ?_
  refine (tt_f rfl).trans ?_
  exact tt_f1 (p := fun x => x < 0) inferInstance rfl
theorem B142_12 {l1 : Int32} {l2 : Int32} (hi1 : zin l1 4 = true) : zd S 142 12 [some (.ref 76), some (.int l1), some (.int l2)] [] I J k = if (I 88 l1.toNatClampNeg) ≤ l2 then zd S 142 35 [some (.ref 76), some (.int l1), some (.int l2)] [] I J k else zd S 142 22 [some (.ref 76), some (.int l1), some (.int l2)] [] I J k := by
  refine (tt_f rfl).trans ?_
  refine (tt_il rfl).trans ?_
  refine (tt_f rfl).trans ?_
  refine (tt_al rfl).trans ?_
  refine (tt_f rfl).trans ?_
  refine (tt_gr rfl rfl).trans ?_
  refine (tt_f rfl).trans ?_
  refine (tt_il rfl).trans ?_
  refine (tt_f rfl).trans ?_
  refine (tt_ga rfl rfl hi1).trans ?_
  refine (tt_f rfl).trans ?_
  exact tt_f2 (p := fun x y => y ≤ x) inferInstance rfl
theorem B142_22 {l1 : Int32} {l2 : Int32} (hi1 : zin ((4 * l1) + l2) 16 = true) : zd S 142 22 [some (.ref 76), some (.int l1), some (.int l2)] [] I J k = some ((some (.int (I 98 ((4 * l1) + l2).toNatClampNeg))), mk I J, k) := by
  refine (tt_f rfl).trans ?_
  refine (tt_al rfl).trans ?_
  refine (tt_f rfl).trans ?_
  refine (tt_gr rfl rfl).trans ?_
  refine (tt_f rfl).trans ?_
  refine tt_c.trans ?_
  refine (tt_f rfl).trans ?_
  refine (tt_il rfl).trans ?_
  refine (tt_f rfl).trans ?_
  refine tt_bi.trans ?_
  refine (tt_f rfl).trans ?_
  refine (tt_il rfl).trans ?_
  refine (tt_f rfl).trans ?_
  refine tt_bi.trans ?_
  refine (tt_f rfl).trans ?_
  refine (tt_ga rfl rfl hi1).trans ?_
  refine (tt_f rfl).trans ?_
  refine tt_go.trans ?_
  exact tt_r1 rfl rfl
theorem B142_35 {l1 : Int32} {l2 : Int32}  : zd S 142 35 [some (.ref 76), some (.int l1), some (.int l2)] [] I J k = some ((some (.int (-1))), mk I J, k) := by
  refine (tt_fk rfl rfl).trans ?_
  refine tt_c.trans ?_
  exact tt_r1 rfl rfl
/-! 143: EditionGridModel.part -/
theorem B143_0 {l1 : Int32} {l2 : Int32} {l3 : Int32} {v1 : Int32} {I2 : zI} {J3 : zJ} (hb : Nat.ble k.1 (mBu 143).1 = true ∧ Nat.ble k.2 (mBu 143).2 = true) (hq : zq S 139 [.ref 76, .int l1] I J (some (.int v1)) I2 J3) : zd S 143 0 [some (.ref 76), some (.int l1), some (.int l2), some (.int l3), none] [] I J k = zd S 143 5 [some (.ref 76), some (.int l1), some (.int l2), some (.int l3), none] [.int v1] I2 J3 k := by
  refine (tt_f rfl).trans ?_
  refine (tt_al rfl).trans ?_
  refine (tt_f rfl).trans ?_
  refine (tt_il rfl).trans ?_
  exact tt_cv (As := [.int l1]) rfl hb.1 hb.2 rfl rfl rfl rfl rfl hq
theorem B143_5 {l1 : Int32} {l2 : Int32} {l3 : Int32} {t0 : Int32}  : zd S 143 5 [some (.ref 76), some (.int l1), some (.int l2), some (.int l3), none] [.int t0] I J k = if t0 = 0 then zd S 143 34 [some (.ref 76), some (.int l1), some (.int l2), some (.int l3), none] [] I J k else zd S 143 8 [some (.ref 76), some (.int l1), some (.int l2), some (.int l3), none] [] I J k := by
  refine (tt_f rfl).trans ?_
  exact tt_f1 (p := fun x => x = 0) inferInstance rfl
theorem B143_8 {l1 : Int32} {l2 : Int32} {l3 : Int32}  : zd S 143 8 [some (.ref 76), some (.int l1), some (.int l2), some (.int l3), none] [] I J k = if l2 < 0 then zd S 143 34 [some (.ref 76), some (.int l1), some (.int l2), some (.int l3), none] [] I J k else zd S 143 12 [some (.ref 76), some (.int l1), some (.int l2), some (.int l3), none] [] I J k := by
  refine (tt_f rfl).trans ?_
  refine (tt_il rfl).trans ?_
  refine (tt_f rfl).trans ?_
  exact tt_f1 (p := fun x => x < 0) inferInstance rfl
theorem B143_12 {l1 : Int32} {l2 : Int32} {l3 : Int32}  : zd S 143 12 [some (.ref 76), some (.int l1), some (.int l2), some (.int l3), none] [] I J k = if 2 ≤ l2 then zd S 143 34 [some (.ref 76), some (.int l1), some (.int l2), some (.int l3), none] [] I J k else zd S 143 17 [some (.ref 76), some (.int l1), some (.int l2), some (.int l3), none] [] I J k := by
  refine (tt_f rfl).trans ?_
  refine (tt_il rfl).trans ?_
  refine (tt_f rfl).trans ?_
  refine tt_c.trans ?_
  refine (tt_f rfl).trans ?_
  exact tt_f2 (p := fun x y => y ≤ x) inferInstance rfl
theorem B143_17 {l1 : Int32} {l2 : Int32} {l3 : Int32} (hi1 : zin ((2 * l1) + l2) 8 = true) : zd S 143 17 [some (.ref 76), some (.int l1), some (.int l2), some (.int l3), none] [] I J k = if (I 103 ((2 * l1) + l2).toNatClampNeg) = 0 then zd S 143 34 [some (.ref 76), some (.int l1), some (.int l2), some (.int l3), none] [] I J k else zd S 143 30 [some (.ref 76), some (.int l1), some (.int l2), some (.int l3), none] [] I J k := by
  refine (tt_f rfl).trans ?_
  refine (tt_al rfl).trans ?_
  refine (tt_f rfl).trans ?_
  refine (tt_gr rfl rfl).trans ?_
  refine (tt_f rfl).trans ?_
  refine tt_c.trans ?_
  refine (tt_f rfl).trans ?_
  refine (tt_il rfl).trans ?_
  refine (tt_f rfl).trans ?_
  refine tt_bi.trans ?_
  refine (tt_f rfl).trans ?_
  refine (tt_il rfl).trans ?_
  refine (tt_f rfl).trans ?_
  refine tt_bi.trans ?_
  refine (tt_f rfl).trans ?_
  refine (tt_ga rfl rfl hi1).trans ?_
  refine (tt_f rfl).trans ?_
  exact tt_f1 (p := fun x => x = 0) inferInstance rfl
theorem B143_30 {l1 : Int32} {l2 : Int32} {l3 : Int32}  : zd S 143 30 [some (.ref 76), some (.int l1), some (.int l2), some (.int l3), none] [] I J k = if 1 = 0 then zd S 143 70 [some (.ref 76), some (.int l1), some (.int l2), some (.int l3), some (.int 1)] [] I J k else zd S 143 42 [some (.ref 76), some (.int l1), some (.int l2), some (.int l3), some (.int 1)] [] I J k := by
  refine (tt_f rfl).trans ?_
  refine tt_c.trans ?_
  refine (tt_f rfl).trans ?_
  refine tt_go.trans ?_
  refine (tt_fk rfl rfl).trans ?_
  refine (tt_is rfl rfl).trans ?_
  refine (tt_f rfl).trans ?_
  refine (tt_il rfl).trans ?_
  refine (tt_f rfl).trans ?_
  exact tt_f1 (p := fun x => x = 0) inferInstance rfl
theorem B143_34 {l1 : Int32} {l2 : Int32} {l3 : Int32}  : zd S 143 34 [some (.ref 76), some (.int l1), some (.int l2), some (.int l3), none] [] I J k = if 0 = 0 then zd S 143 70 [some (.ref 76), some (.int l1), some (.int l2), some (.int l3), some (.int 0)] [] I J k else zd S 143 42 [some (.ref 76), some (.int l1), some (.int l2), some (.int l3), some (.int 0)] [] I J k := by
  refine (tt_fk rfl rfl).trans ?_
  refine tt_c.trans ?_
  refine (tt_fk rfl rfl).trans ?_
  refine (tt_is rfl rfl).trans ?_
  refine (tt_f rfl).trans ?_
  refine (tt_il rfl).trans ?_
  refine (tt_f rfl).trans ?_
  exact tt_f1 (p := fun x => x = 0) inferInstance rfl
theorem B143_42 {l1 : Int32} {l2 : Int32} {l3 : Int32} {l4 : Int32}  : zd S 143 42 [some (.ref 76), some (.int l1), some (.int l2), some (.int l3), some (.int l4)] [] I J k = if l3 < 0 then zd S 143 70 [some (.ref 76), some (.int l1), some (.int l2), some (.int l3), some (.int l4)] [] I J k else zd S 143 46 [some (.ref 76), some (.int l1), some (.int l2), some (.int l3), some (.int l4)] [] I J k := by
  refine (tt_f rfl).trans ?_
  refine (tt_il rfl).trans ?_
  refine (tt_f rfl).trans ?_
  exact tt_f1 (p := fun x => x < 0) inferInstance rfl
theorem B143_46 {l1 : Int32} {l2 : Int32} {l3 : Int32} {l4 : Int32}  : zd S 143 46 [some (.ref 76), some (.int l1), some (.int l2), some (.int l3), some (.int l4)] [] I J k = if 10 < l3 then zd S 143 70 [some (.ref 76), some (.int l1), some (.int l2), some (.int l3), some (.int l4)] [] I J k else zd S 143 52 [some (.ref 76), some (.int l1), some (.int l2), some (.int l3), some (.int l4)] [] I J k := by
  refine (tt_f rfl).trans ?_
  refine (tt_il rfl).trans ?_
  refine (tt_f rfl).trans ?_
  refine tt_c.trans ?_
  refine (tt_f rfl).trans ?_
  exact tt_f2 (p := fun x y => y < x) inferInstance rfl
theorem B143_52 {l1 : Int32} {l2 : Int32} {l3 : Int32} {l4 : Int32} (hi1 : zin ((11 * ((2 * l1) + l2)) + l3) 88 = true) : zd S 143 52 [some (.ref 76), some (.int l1), some (.int l2), some (.int l3), some (.int l4)] [] I J k = some ((some (.int (I 104 ((11 * ((2 * l1) + l2)) + l3).toNatClampNeg))), mk I J, k) := by
  refine (tt_f rfl).trans ?_
  refine (tt_al rfl).trans ?_
  refine (tt_f rfl).trans ?_
  refine (tt_gr rfl rfl).trans ?_
  refine (tt_f rfl).trans ?_
  refine tt_c.trans ?_
  refine (tt_f rfl).trans ?_
  refine tt_c.trans ?_
  refine (tt_f rfl).trans ?_
  refine (tt_il rfl).trans ?_
  refine (tt_f rfl).trans ?_
  refine tt_bi.trans ?_
  refine (tt_f rfl).trans ?_
  refine (tt_il rfl).trans ?_
  refine (tt_f rfl).trans ?_
  refine tt_bi.trans ?_
  refine (tt_f rfl).trans ?_
  refine tt_bi.trans ?_
  refine (tt_f rfl).trans ?_
  refine (tt_il rfl).trans ?_
  refine (tt_f rfl).trans ?_
  refine tt_bi.trans ?_
  refine (tt_f rfl).trans ?_
  refine (tt_ga rfl rfl hi1).trans ?_
  refine (tt_f rfl).trans ?_
  refine tt_go.trans ?_
  exact tt_r1 rfl rfl
theorem B143_70 {l1 : Int32} {l2 : Int32} {l3 : Int32} {l4 : Int32}  : zd S 143 70 [some (.ref 76), some (.int l1), some (.int l2), some (.int l3), some (.int l4)] [] I J k = some ((some (.int (-1))), mk I J, k) := by
  refine (tt_fk rfl rfl).trans ?_
  refine tt_c.trans ?_
  exact tt_r1 rfl rfl
/-! 144: EditionGridModel.isCell -/
theorem B144_0 {l1 : Int32} {l2 : Int32} {l3 : Int32}  : zd S 144 0 [some (.ref 76), some (.int l1), some (.int l2), some (.int l3)] [] I J k = if l1 < 0 then zd S 144 37 [some (.ref 76), some (.int l1), some (.int l2), some (.int l3)] [] I J k else zd S 144 4 [some (.ref 76), some (.int l1), some (.int l2), some (.int l3)] [] I J k := by
  refine (tt_f rfl).trans ?_
  refine (tt_il rfl).trans ?_
  refine (tt_f rfl).trans ?_
  exact tt_f1 (p := fun x => x < 0) inferInstance rfl
theorem B144_4 {l1 : Int32} {l2 : Int32} {l3 : Int32}  : zd S 144 4 [some (.ref 76), some (.int l1), some (.int l2), some (.int l3)] [] I J k = if 3 ≤ l1 then zd S 144 37 [some (.ref 76), some (.int l1), some (.int l2), some (.int l3)] [] I J k else zd S 144 9 [some (.ref 76), some (.int l1), some (.int l2), some (.int l3)] [] I J k := by
  refine (tt_f rfl).trans ?_
  refine (tt_il rfl).trans ?_
  refine (tt_f rfl).trans ?_
  refine tt_c.trans ?_
  refine (tt_f rfl).trans ?_
  exact tt_f2 (p := fun x y => y ≤ x) inferInstance rfl
theorem B144_9 {l1 : Int32} {l2 : Int32} {l3 : Int32}  : zd S 144 9 [some (.ref 76), some (.int l1), some (.int l2), some (.int l3)] [] I J k = if l2 < 0 then zd S 144 37 [some (.ref 76), some (.int l1), some (.int l2), some (.int l3)] [] I J k else zd S 144 13 [some (.ref 76), some (.int l1), some (.int l2), some (.int l3)] [] I J k := by
  refine (tt_f rfl).trans ?_
  refine (tt_il rfl).trans ?_
  refine (tt_f rfl).trans ?_
  exact tt_f1 (p := fun x => x < 0) inferInstance rfl
theorem B144_13 {l1 : Int32} {l2 : Int32} {l3 : Int32}  : zd S 144 13 [some (.ref 76), some (.int l1), some (.int l2), some (.int l3)] [] I J k = if (I 76 0) ≤ l2 then zd S 144 37 [some (.ref 76), some (.int l1), some (.int l2), some (.int l3)] [] I J k else zd S 144 21 [some (.ref 76), some (.int l1), some (.int l2), some (.int l3)] [] I J k := by
  refine (tt_f rfl).trans ?_
  refine (tt_il rfl).trans ?_
  refine (tt_f rfl).trans ?_
  refine (tt_al rfl).trans ?_
  refine (tt_f rfl).trans ?_
  refine (tt_gi rfl rfl).trans ?_
  refine (tt_f rfl).trans ?_
  exact tt_f2 (p := fun x y => y ≤ x) inferInstance rfl
theorem B144_21 {l1 : Int32} {l2 : Int32} {l3 : Int32}  : zd S 144 21 [some (.ref 76), some (.int l1), some (.int l2), some (.int l3)] [] I J k = if l3 < 0 then zd S 144 37 [some (.ref 76), some (.int l1), some (.int l2), some (.int l3)] [] I J k else zd S 144 25 [some (.ref 76), some (.int l1), some (.int l2), some (.int l3)] [] I J k := by
  refine (tt_f rfl).trans ?_
  refine (tt_il rfl).trans ?_
  refine (tt_f rfl).trans ?_
  exact tt_f1 (p := fun x => x < 0) inferInstance rfl
theorem B144_25 {l1 : Int32} {l2 : Int32} {l3 : Int32}  : zd S 144 25 [some (.ref 76), some (.int l1), some (.int l2), some (.int l3)] [] I J k = if (I 76 1) ≤ l3 then zd S 144 37 [some (.ref 76), some (.int l1), some (.int l2), some (.int l3)] [] I J k else zd S 144 33 [some (.ref 76), some (.int l1), some (.int l2), some (.int l3)] [] I J k := by
  refine (tt_f rfl).trans ?_
  refine (tt_il rfl).trans ?_
  refine (tt_f rfl).trans ?_
  refine (tt_al rfl).trans ?_
  refine (tt_f rfl).trans ?_
  refine (tt_gi rfl rfl).trans ?_
  refine (tt_f rfl).trans ?_
  exact tt_f2 (p := fun x y => y ≤ x) inferInstance rfl
theorem B144_33 {l1 : Int32} {l2 : Int32} {l3 : Int32} (hz : zrt 2 (.int 1) = true) : zd S 144 33 [some (.ref 76), some (.int l1), some (.int l2), some (.int l3)] [] I J k = some ((some (.int 1)), mk I J, k) := by
  refine (tt_f rfl).trans ?_
  refine tt_c.trans ?_
  refine (tt_f rfl).trans ?_
  refine tt_go.trans ?_
  exact tt_r1 rfl hz
theorem B144_37 {l1 : Int32} {l2 : Int32} {l3 : Int32} (hz : zrt 2 (.int 0) = true) : zd S 144 37 [some (.ref 76), some (.int l1), some (.int l2), some (.int l3)] [] I J k = some ((some (.int 0)), mk I J, k) := by
  refine (tt_fk rfl rfl).trans ?_
  refine tt_c.trans ?_
  exact tt_r1 rfl hz
/-! 145: EditionGridModel.cell -/
theorem B145_0 {l1 : Int32} {l2 : Int32} {l3 : Int32} {v1 : Int32} {I2 : zI} {J3 : zJ} (hb : Nat.ble k.1 (mBu 145).1 = true ∧ Nat.ble k.2 (mBu 145).2 = true) (hq : zq S 144 [.ref 76, .int l1, .int l2, .int l3] I J (some (.int v1)) I2 J3) : zd S 145 0 [some (.ref 76), some (.int l1), some (.int l2), some (.int l3)] [] I J k = zd S 145 7 [some (.ref 76), some (.int l1), some (.int l2), some (.int l3)] [.int v1] I2 J3 k := by
  refine (tt_f rfl).trans ?_
  refine (tt_al rfl).trans ?_
  refine (tt_f rfl).trans ?_
  refine (tt_il rfl).trans ?_
  refine (tt_f rfl).trans ?_
  refine (tt_il rfl).trans ?_
  refine (tt_f rfl).trans ?_
  refine (tt_il rfl).trans ?_
  exact tt_cv (As := [.int l1, .int l2, .int l3]) rfl hb.1 hb.2 rfl rfl rfl rfl rfl hq
theorem B145_7 {l1 : Int32} {l2 : Int32} {l3 : Int32} {t0 : Int32}  : zd S 145 7 [some (.ref 76), some (.int l1), some (.int l2), some (.int l3)] [.int t0] I J k = if t0 = 0 then zd S 145 29 [some (.ref 76), some (.int l1), some (.int l2), some (.int l3)] [] I J k else zd S 145 10 [some (.ref 76), some (.int l1), some (.int l2), some (.int l3)] [] I J k := by
  refine (tt_f rfl).trans ?_
  exact tt_f1 (p := fun x => x = 0) inferInstance rfl
theorem B145_10 {l1 : Int32} {l2 : Int32} {l3 : Int32} (hi1 : zin (((64 * l1) + (16 * l2)) + l3) 192 = true) : zd S 145 10 [some (.ref 76), some (.int l1), some (.int l2), some (.int l3)] [] I J k = some ((some (.int (I 105 (((64 * l1) + (16 * l2)) + l3).toNatClampNeg))), mk I J, k) := by
  refine (tt_f rfl).trans ?_
  refine (tt_al rfl).trans ?_
  refine (tt_f rfl).trans ?_
  refine (tt_gr rfl rfl).trans ?_
  refine (tt_f rfl).trans ?_
  refine tt_c.trans ?_
  refine (tt_f rfl).trans ?_
  refine (tt_il rfl).trans ?_
  refine (tt_f rfl).trans ?_
  refine tt_bi.trans ?_
  refine (tt_f rfl).trans ?_
  refine tt_c.trans ?_
  refine (tt_f rfl).trans ?_
  refine (tt_il rfl).trans ?_
  refine (tt_f rfl).trans ?_
  refine tt_bi.trans ?_
  refine (tt_f rfl).trans ?_
  refine tt_bi.trans ?_
  refine (tt_f rfl).trans ?_
  refine (tt_il rfl).trans ?_
  refine (tt_f rfl).trans ?_
  refine tt_bi.trans ?_
  refine (tt_f rfl).trans ?_
  refine (tt_ga rfl rfl hi1).trans ?_
  refine (tt_f rfl).trans ?_
  refine tt_go.trans ?_
  exact tt_r1 rfl rfl
theorem B145_29 {l1 : Int32} {l2 : Int32} {l3 : Int32}  : zd S 145 29 [some (.ref 76), some (.int l1), some (.int l2), some (.int l3)] [] I J k = some ((some (.int (-1))), mk I J, k) := by
  refine (tt_f rfl).trans ?_
  refine tt_c.trans ?_
  exact tt_r1 rfl rfl
/-! 146: EditionGridModel.inkOf -/
theorem B146_0 {l1 : Int32} {l2 : Int32} {l3 : Int32} {l4 : Int32} {l5 : Int32} {l6 : Int32}  : zd S 146 0 [some (.ref 76), some (.int l1), some (.int l2), some (.int l3), some (.int l4), some (.int l5), some (.int l6), none, none, none, none] [] I J k = zd S 146 10 [some (.ref 76), some (.int l1), some (.int l2), some (.int l3), some (.int l4), some (.int l5), some (.int l6), some (.int 0), some (.int l6), some (.int l2), none] [] I J k := by
  refine (tt_f rfl).trans ?_
  refine tt_c.trans ?_
  refine (tt_f rfl).trans ?_
  refine (tt_is rfl rfl).trans ?_
  refine (tt_f rfl).trans ?_
  refine (tt_il rfl).trans ?_
  refine (tt_f rfl).trans ?_
  refine (tt_is rfl rfl).trans ?_
  refine (tt_f rfl).trans ?_
  refine (tt_il rfl).trans ?_
  refine (tt_f rfl).trans ?_
  refine (tt_is rfl rfl).trans ?_
  rfl
theorem B146_10 {l1 : Int32} {o2 : Option Value} {l3 : Int32} {l4 : Int32} {l5 : Int32} {o6 : Option Value} {l7 : Int32} {l8 : Int32} {l9 : Int32}  : zd S 146 10 [some (.ref 76), some (.int l1), o2, some (.int l3), some (.int l4), some (.int l5), o6, some (.int l7), some (.int l8), some (.int l9), none] [] I J k = if l3 ≤ l9 then zd S 146 112 [some (.ref 76), some (.int l1), none, some (.int l3), some (.int l4), some (.int l5), none, some (.int l7), some (.int l8), some (.int l9), none] [] I J k else zd S 146 16 [some (.ref 76), some (.int l1), none, some (.int l3), some (.int l4), some (.int l5), none, some (.int l7), some (.int l8), some (.int l9), none] [] I J k := by
  refine (tt_fk rfl rfl).trans ?_
  refine (tt_il rfl).trans ?_
  refine (tt_f rfl).trans ?_
  refine (tt_il rfl).trans ?_
  refine (tt_f rfl).trans ?_
  exact tt_f2 (p := fun x y => y ≤ x) inferInstance rfl
theorem B146_16 {l1 : Int32} {l3 : Int32} {l4 : Int32} {l5 : Int32} {l7 : Int32} {l8 : Int32} {l9 : Int32} (hi1 : zin ((192 * l1) + l9) 3840 = true) (hi2 : zin ((I 89 ((192 * l1) + l9).toNatClampNeg) - 97) 26 = true) : zd S 146 16 [some (.ref 76), some (.int l1), none, some (.int l3), some (.int l4), some (.int l5), none, some (.int l7), some (.int l8), some (.int l9), none] [] I J k = if (l7 + (I 78 ((I 89 ((192 * l1) + l9).toNatClampNeg) - 97).toNatClampNeg)) ≤ l4 then zd S 146 56 [some (.ref 76), some (.int l1), none, some (.int l3), some (.int l4), some (.int l5), none, some (.int (l7 + (I 78 ((I 89 ((192 * l1) + l9).toNatClampNeg) - 97).toNatClampNeg))), some (.int l8), some (.int l9), some (.int (I 89 ((192 * l1) + l9).toNatClampNeg))] [] I J k else zd S 146 53 [some (.ref 76), some (.int l1), none, some (.int l3), some (.int l4), some (.int l5), none, some (.int (l7 + (I 78 ((I 89 ((192 * l1) + l9).toNatClampNeg) - 97).toNatClampNeg))), some (.int l8), some (.int l9), some (.int (I 89 ((192 * l1) + l9).toNatClampNeg))] [] I J k := by
  refine (tt_f rfl).trans ?_
  refine (tt_al rfl).trans ?_
  refine (tt_f rfl).trans ?_
  refine (tt_gr rfl rfl).trans ?_
  refine (tt_f rfl).trans ?_
  refine tt_c.trans ?_
  refine (tt_f rfl).trans ?_
  refine (tt_il rfl).trans ?_
  refine (tt_f rfl).trans ?_
  refine tt_bi.trans ?_
  refine (tt_f rfl).trans ?_
  refine (tt_il rfl).trans ?_
  refine (tt_f rfl).trans ?_
  refine tt_bi.trans ?_
  refine (tt_f rfl).trans ?_
  refine (tt_ga rfl rfl hi1).trans ?_
  refine (tt_f rfl).trans ?_
  refine (tt_is rfl rfl).trans ?_
  refine (tt_f rfl).trans ?_
  refine (tt_il rfl).trans ?_
  refine (tt_f rfl).trans ?_
  refine (tt_al rfl).trans ?_
  refine (tt_f rfl).trans ?_
  refine (tt_gr rfl rfl).trans ?_
  refine (tt_f rfl).trans ?_
  refine (tt_il rfl).trans ?_
  refine (tt_f rfl).trans ?_
  refine tt_c.trans ?_
  refine (tt_f rfl).trans ?_
  refine tt_bi.trans ?_
  refine (tt_f rfl).trans ?_
  refine (tt_ga rfl rfl hi2).trans ?_
  refine (tt_f rfl).trans ?_
  refine tt_bi.trans ?_
  refine (tt_f rfl).trans ?_
  refine (tt_is rfl rfl).trans ?_
  refine (tt_f rfl).trans ?_
  refine (tt_il rfl).trans ?_
  refine (tt_f rfl).trans ?_
  refine (tt_il rfl).trans ?_
  refine (tt_f rfl).trans ?_
  exact tt_f2 (p := fun x y => y ≤ x) inferInstance rfl
theorem B146_53 {l1 : Int32} {l3 : Int32} {l4 : Int32} {l5 : Int32} {l7 : Int32} {l8 : Int32} {l9 : Int32} {l10 : Int32}  : zd S 146 53 [some (.ref 76), some (.int l1), none, some (.int l3), some (.int l4), some (.int l5), none, some (.int l7), some (.int l8), some (.int l9), some (.int l10)] [] I J k = some ((some (.int l10)), mk I J, k) := by
  refine (tt_f rfl).trans ?_
  refine (tt_il rfl).trans ?_
  exact tt_r1 rfl rfl
theorem B146_56 {l1 : Int32} {l3 : Int32} {l4 : Int32} {l5 : Int32} {l7 : Int32} {l8 : Int32} {l9 : Int32} {l10 : Int32}  : zd S 146 56 [some (.ref 76), some (.int l1), none, some (.int l3), some (.int l4), some (.int l5), none, some (.int l7), some (.int l8), some (.int l9), some (.int l10)] [] I J k = if l3 ≤ (l9 + 1) then zd S 146 106 [some (.ref 76), some (.int l1), none, some (.int l3), some (.int l4), some (.int l5), none, some (.int l7), some (.int l8), some (.int l9), some (.int l10)] [] I J k else zd S 146 64 [some (.ref 76), some (.int l1), none, some (.int l3), some (.int l4), some (.int l5), none, some (.int l7), some (.int l8), some (.int l9), some (.int l10)] [] I J k := by
  refine (tt_f rfl).trans ?_
  refine (tt_il rfl).trans ?_
  refine (tt_f rfl).trans ?_
  refine tt_c.trans ?_
  refine (tt_f rfl).trans ?_
  refine tt_bi.trans ?_
  refine (tt_f rfl).trans ?_
  refine (tt_il rfl).trans ?_
  refine (tt_f rfl).trans ?_
  exact tt_f2 (p := fun x y => y ≤ x) inferInstance rfl
theorem B146_64 {l1 : Int32} {l3 : Int32} {l4 : Int32} {l5 : Int32} {l7 : Int32} {l8 : Int32} {l9 : Int32} {l10 : Int32} {v1 : Int32} {I2 : zI} {J3 : zJ} (hb : Nat.ble k.1 (mBu 146).1 = true ∧ Nat.ble k.2 (mBu 146).2 = true) (hq : zq S 119 [.ref 76, .int l1, .int (l9 + 1)] I J (some (.int v1)) I2 J3) : zd S 146 64 [some (.ref 76), some (.int l1), none, some (.int l3), some (.int l4), some (.int l5), none, some (.int l7), some (.int l8), some (.int l9), some (.int l10)] [] I J k = zd S 146 73 [some (.ref 76), some (.int l1), none, some (.int l3), some (.int l4), some (.int l5), none, some (.int l7), some (.int l8), some (.int l9), some (.int l10)] [.int v1] I2 J3 k := by
  refine (tt_f rfl).trans ?_
  refine (tt_al rfl).trans ?_
  refine (tt_f rfl).trans ?_
  refine (tt_il rfl).trans ?_
  refine (tt_f rfl).trans ?_
  refine (tt_il rfl).trans ?_
  refine (tt_f rfl).trans ?_
  refine tt_c.trans ?_
  refine (tt_f rfl).trans ?_
  refine tt_bi.trans ?_
  exact tt_cv (As := [.int l1, .int (l9 + 1)]) rfl hb.1 hb.2 rfl rfl rfl rfl rfl hq
theorem B146_73 {l1 : Int32} {l3 : Int32} {l4 : Int32} {l5 : Int32} {l7 : Int32} {l8 : Int32} {l9 : Int32} {l10 : Int32} {t0 : Int32}  : zd S 146 73 [some (.ref 76), some (.int l1), none, some (.int l3), some (.int l4), some (.int l5), none, some (.int l7), some (.int l8), some (.int l9), some (.int l10)] [.int t0] I J k = if t0 = 0 then zd S 146 106 [some (.ref 76), some (.int l1), none, some (.int l3), some (.int l4), some (.int l5), none, some (.int l7), some (.int l8), some (.int l9), some (.int l10)] [] I J k else zd S 146 76 [some (.ref 76), some (.int l1), none, some (.int l3), some (.int l4), some (.int l5), none, some (.int l7), some (.int l8), some (.int l9), some (.int l10)] [] I J k := by
  refine (tt_f rfl).trans ?_
  exact tt_f1 (p := fun x => x = 0) inferInstance rfl
theorem B146_76 {l1 : Int32} {l3 : Int32} {l4 : Int32} {l5 : Int32} {l7 : Int32} {l8 : Int32} {l9 : Int32} {l10 : Int32}  : zd S 146 76 [some (.ref 76), some (.int l1), none, some (.int l3), some (.int l4), some (.int l5), none, some (.int l7), some (.int l8), some (.int l9), some (.int l10)] [] I J k = if l8 ≤ 0 then zd S 146 90 [some (.ref 76), some (.int l1), none, some (.int l3), some (.int l4), some (.int l5), none, some (.int l7), some (.int l8), some (.int l9), some (.int l10)] [.int (l7 + l5)] I J k else zd S 146 86 [some (.ref 76), some (.int l1), none, some (.int l3), some (.int l4), some (.int l5), none, some (.int l7), some (.int l8), some (.int l9), some (.int l10)] [.int (l7 + l5)] I J k := by
  refine (tt_f rfl).trans ?_
  refine (tt_il rfl).trans ?_
  refine (tt_f rfl).trans ?_
  refine (tt_il rfl).trans ?_
  refine (tt_f rfl).trans ?_
  refine tt_bi.trans ?_
  refine (tt_f rfl).trans ?_
  refine (tt_il rfl).trans ?_
  refine (tt_f rfl).trans ?_
  exact tt_f1 (p := fun x => x ≤ 0) inferInstance rfl
theorem B146_86 {l1 : Int32} {l3 : Int32} {l4 : Int32} {l5 : Int32} {l7 : Int32} {l8 : Int32} {l9 : Int32} {l10 : Int32} {t0 : Int32}  : zd S 146 86 [some (.ref 76), some (.int l1), none, some (.int l3), some (.int l4), some (.int l5), none, some (.int l7), some (.int l8), some (.int l9), some (.int l10)] [.int t0] I J k = if (t0 + 1) ≤ l4 then zd S 146 106 [some (.ref 76), some (.int l1), none, some (.int l3), some (.int l4), some (.int l5), none, some (.int (t0 + 1)), some (.int (l8 + (-1))), some (.int l9), none] [] I J k else zd S 146 104 [some (.ref 76), some (.int l1), none, some (.int l3), some (.int l4), some (.int l5), none, some (.int (t0 + 1)), some (.int (l8 + (-1))), some (.int l9), none] [] I J k := by
  refine (tt_f rfl).trans ?_
  refine tt_c.trans ?_
  refine (tt_f rfl).trans ?_
  refine tt_go.trans ?_
  refine (tt_fk rfl rfl).trans ?_
  refine tt_bi.trans ?_
  refine (tt_f rfl).trans ?_
  refine (tt_is rfl rfl).trans ?_
  refine (tt_f rfl).trans ?_
  refine (tt_in rfl rfl).trans ?_
  refine (tt_f rfl).trans ?_
  refine (tt_il rfl).trans ?_
  refine (tt_f rfl).trans ?_
  refine (tt_il rfl).trans ?_
  refine (tt_f rfl).trans ?_
  exact tt_f2 (p := fun x y => y ≤ x) inferInstance rfl
theorem B146_90 {l1 : Int32} {l3 : Int32} {l4 : Int32} {l5 : Int32} {l7 : Int32} {l8 : Int32} {l9 : Int32} {l10 : Int32} {t0 : Int32}  : zd S 146 90 [some (.ref 76), some (.int l1), none, some (.int l3), some (.int l4), some (.int l5), none, some (.int l7), some (.int l8), some (.int l9), some (.int l10)] [.int t0] I J k = if (t0 + 0) ≤ l4 then zd S 146 106 [some (.ref 76), some (.int l1), none, some (.int l3), some (.int l4), some (.int l5), none, some (.int (t0 + 0)), some (.int (l8 + (-1))), some (.int l9), none] [] I J k else zd S 146 104 [some (.ref 76), some (.int l1), none, some (.int l3), some (.int l4), some (.int l5), none, some (.int (t0 + 0)), some (.int (l8 + (-1))), some (.int l9), none] [] I J k := by
  refine (tt_f rfl).trans ?_
  refine tt_c.trans ?_
  refine (tt_fk rfl rfl).trans ?_
  refine tt_bi.trans ?_
  refine (tt_f rfl).trans ?_
  refine (tt_is rfl rfl).trans ?_
  refine (tt_f rfl).trans ?_
  refine (tt_in rfl rfl).trans ?_
  refine (tt_f rfl).trans ?_
  refine (tt_il rfl).trans ?_
  refine (tt_f rfl).trans ?_
  refine (tt_il rfl).trans ?_
  refine (tt_f rfl).trans ?_
  exact tt_f2 (p := fun x y => y ≤ x) inferInstance rfl
theorem B146_104 {l1 : Int32} {l3 : Int32} {l4 : Int32} {l5 : Int32} {l7 : Int32} {l8 : Int32} {l9 : Int32}  : zd S 146 104 [some (.ref 76), some (.int l1), none, some (.int l3), some (.int l4), some (.int l5), none, some (.int l7), some (.int l8), some (.int l9), none] [] I J k = some ((some (.int 0)), mk I J, k) := by
  refine (tt_f rfl).trans ?_
  refine tt_c.trans ?_
  exact tt_r1 rfl rfl
theorem B146_106 {l1 : Int32} {l3 : Int32} {l4 : Int32} {l5 : Int32} {l7 : Int32} {l8 : Int32} {l9 : Int32} {o10 : Option Value}  : zd S 146 106 [some (.ref 76), some (.int l1), none, some (.int l3), some (.int l4), some (.int l5), none, some (.int l7), some (.int l8), some (.int l9), o10] [] I J k = zd S 146 10 [some (.ref 76), some (.int l1), none, some (.int l3), some (.int l4), some (.int l5), none, some (.int l7), some (.int l8), some (.int (l9 + 1)), none] [] I J k := by
  refine (tt_fk rfl rfl).trans ?_
  refine (tt_in rfl rfl).trans ?_
  refine (tt_f rfl).trans ?_
  refine tt_go.trans ?_
  rfl
theorem B146_112 {l1 : Int32} {l3 : Int32} {l4 : Int32} {l5 : Int32} {l7 : Int32} {l8 : Int32} {l9 : Int32} {v1 : Int32} {I2 : zI} {J3 : zJ} (hb : Nat.ble k.1 (mBu 146).1 = true ∧ Nat.ble k.2 (mBu 146).2 = true) (hq : zq S 119 [.ref 76, .int l1, .int l3] I J (some (.int v1)) I2 J3) : zd S 146 112 [some (.ref 76), some (.int l1), none, some (.int l3), some (.int l4), some (.int l5), none, some (.int l7), some (.int l8), some (.int l9), none] [] I J k = zd S 146 118 [some (.ref 76), some (.int l1), none, some (.int l3), some (.int l4), some (.int l5), none, some (.int l7), some (.int l8), some (.int l9), none] [.int v1] I2 J3 k := by
  refine (tt_f rfl).trans ?_
  refine (tt_al rfl).trans ?_
  refine (tt_f rfl).trans ?_
  refine (tt_il rfl).trans ?_
  refine (tt_f rfl).trans ?_
  refine (tt_il rfl).trans ?_
  exact tt_cv (As := [.int l1, .int l3]) rfl hb.1 hb.2 rfl rfl rfl rfl rfl hq
theorem B146_118 {l1 : Int32} {l3 : Int32} {l4 : Int32} {l5 : Int32} {l7 : Int32} {l8 : Int32} {l9 : Int32} {t0 : Int32}  : zd S 146 118 [some (.ref 76), some (.int l1), none, some (.int l3), some (.int l4), some (.int l5), none, some (.int l7), some (.int l8), some (.int l9), none] [.int t0] I J k = if ¬ t0 = 0 then zd S 146 135 [some (.ref 76), some (.int l1), none, some (.int l3), some (.int l4), some (.int l5), none, some (.int l7), some (.int l8), some (.int l9), none] [] I J k else zd S 146 121 [some (.ref 76), some (.int l1), none, some (.int l3), some (.int l4), some (.int l5), none, some (.int l7), some (.int l8), some (.int l9), none] [] I J k := by
  refine (tt_f rfl).trans ?_
  exact tt_f1 (p := fun x => ¬ x = 0) inferInstance rfl
theorem B146_121 {l1 : Int32} {l3 : Int32} {l4 : Int32} {l5 : Int32} {l7 : Int32} {l8 : Int32} {l9 : Int32}  : zd S 146 121 [some (.ref 76), some (.int l1), none, some (.int l3), some (.int l4), some (.int l5), none, some (.int l7), some (.int l8), some (.int l9), none] [] I J k = if (l7 + 2) ≤ l4 then zd S 146 135 [some (.ref 76), some (.int l1), none, some (.int l3), some (.int l4), some (.int l5), none, some (.int l7), some (.int l8), some (.int l9), none] [] I J k else zd S 146 130 [some (.ref 76), some (.int l1), none, some (.int l3), some (.int l4), some (.int l5), none, some (.int l7), some (.int l8), some (.int l9), none] [] I J k := by
  refine (tt_f rfl).trans ?_
  refine (tt_il rfl).trans ?_
  refine (tt_f rfl).trans ?_
  refine (tt_il rfl).trans ?_
  refine (tt_f rfl).trans ?_
  refine tt_c.trans ?_
  refine (tt_f rfl).trans ?_
  refine tt_bi.trans ?_
  refine (tt_f rfl).trans ?_
  exact tt_f2 (p := fun x y => y ≤ x) inferInstance rfl
theorem B146_130 {l1 : Int32} {l3 : Int32} {l4 : Int32} {l5 : Int32} {l7 : Int32} {l8 : Int32} {l9 : Int32}  : zd S 146 130 [some (.ref 76), some (.int l1), none, some (.int l3), some (.int l4), some (.int l5), none, some (.int l7), some (.int l8), some (.int l9), none] [] I J k = some ((some (.int 45)), mk I J, k) := by
  refine (tt_f rfl).trans ?_
  refine tt_c.trans ?_
  refine (tt_f rfl).trans ?_
  refine tt_go.trans ?_
  exact tt_r1 rfl rfl
theorem B146_135 {l1 : Int32} {l3 : Int32} {l4 : Int32} {l5 : Int32} {l7 : Int32} {l8 : Int32} {l9 : Int32}  : zd S 146 135 [some (.ref 76), some (.int l1), none, some (.int l3), some (.int l4), some (.int l5), none, some (.int l7), some (.int l8), some (.int l9), none] [] I J k = some ((some (.int 0)), mk I J, k) := by
  refine (tt_fk rfl rfl).trans ?_
  refine tt_c.trans ?_
  exact tt_r1 rfl rfl
/-! 147: EditionGridModel.lineInk -/
theorem B147_0 {l1 : Int32} {l2 : Int32} {v4 : Int32} {I5 : zI} {J6 : zJ} (hb : Nat.ble k.1 (mBu 147).1 = true ∧ Nat.ble k.2 (mBu 147).2 = true) (hi1 : zin l1 164 = true) (hi2 : zin l1 164 = true) (hi3 : zin l1 164 = true) (hq : zq S 120 [.ref 76, .int (I 95 l1.toNatClampNeg), .int (I 96 l1.toNatClampNeg), .int (I 97 l1.toNatClampNeg)] I J (some (.int v4)) I5 J6) : zd S 147 0 [some (.ref 76), some (.int l1), some (.int l2), none, none, none, none] [] I J k = zd S 147 24 [some (.ref 76), some (.int l1), some (.int l2), some (.int (I 95 l1.toNatClampNeg)), none, none, none] [.int v4] I5 J6 k := by
  refine (tt_f rfl).trans ?_
  refine (tt_al rfl).trans ?_
  refine (tt_f rfl).trans ?_
  refine (tt_gr rfl rfl).trans ?_
  refine (tt_f rfl).trans ?_
  refine (tt_il rfl).trans ?_
  refine (tt_f rfl).trans ?_
  refine (tt_ga rfl rfl hi1).trans ?_
  refine (tt_f rfl).trans ?_
  refine (tt_is rfl rfl).trans ?_
  refine (tt_f rfl).trans ?_
  refine (tt_al rfl).trans ?_
  refine (tt_f rfl).trans ?_
  refine (tt_il rfl).trans ?_
  refine (tt_f rfl).trans ?_
  refine (tt_al rfl).trans ?_
  refine (tt_f rfl).trans ?_
  refine (tt_gr rfl rfl).trans ?_
  refine (tt_f rfl).trans ?_
  refine (tt_il rfl).trans ?_
  refine (tt_f rfl).trans ?_
  refine (tt_ga rfl rfl hi2).trans ?_
  refine (tt_f rfl).trans ?_
  refine (tt_al rfl).trans ?_
  refine (tt_f rfl).trans ?_
  refine (tt_gr rfl rfl).trans ?_
  refine (tt_f rfl).trans ?_
  refine (tt_il rfl).trans ?_
  refine (tt_f rfl).trans ?_
  refine (tt_ga rfl rfl hi3).trans ?_
  exact tt_cv (As := [.int (I 95 l1.toNatClampNeg), .int (I 96 l1.toNatClampNeg), .int (I 97 l1.toNatClampNeg)]) rfl hb.1 hb.2 rfl rfl rfl rfl rfl hq
theorem B147_24 {l1 : Int32} {l2 : Int32} {l3 : Int32} {t0 : Int32} (hi1 : zin l1 164 = true) (hi2 : zin l3 20 = true) : zd S 147 24 [some (.ref 76), some (.int l1), some (.int l2), some (.int l3), none, none, none] [.int t0] I J k = if (I 97 l1.toNatClampNeg) = (I 92 l3.toNatClampNeg) then zd S 147 46 [some (.ref 76), some (.int l1), some (.int l2), some (.int l3), some (.int t0), none, none] [] I J k else zd S 147 41 [some (.ref 76), some (.int l1), some (.int l2), some (.int l3), some (.int t0), none, none] [] I J k := by
  refine (tt_f rfl).trans ?_
  refine (tt_is rfl rfl).trans ?_
  refine (tt_f rfl).trans ?_
  refine (tt_al rfl).trans ?_
  refine (tt_f rfl).trans ?_
  refine (tt_gr rfl rfl).trans ?_
  refine (tt_f rfl).trans ?_
  refine (tt_il rfl).trans ?_
  refine (tt_f rfl).trans ?_
  refine (tt_ga rfl rfl hi1).trans ?_
  refine (tt_f rfl).trans ?_
  refine (tt_al rfl).trans ?_
  refine (tt_f rfl).trans ?_
  refine (tt_gr rfl rfl).trans ?_
  refine (tt_f rfl).trans ?_
  refine (tt_il rfl).trans ?_
  refine (tt_f rfl).trans ?_
  refine (tt_ga rfl rfl hi2).trans ?_
  refine (tt_f rfl).trans ?_
  exact tt_f2 (p := fun x y => x = y) inferInstance rfl
theorem B147_41 {l1 : Int32} {l2 : Int32} {l3 : Int32} {l4 : Int32}  : zd S 147 41 [some (.ref 76), some (.int l1), some (.int l2), some (.int l3), some (.int l4), none, none] [] I J k = if ¬ l4 = 0 then zd S 147 50 [some (.ref 76), some (.int l1), some (.int l2), some (.int l3), some (.int l4), none, none] [] I J k else zd S 147 46 [some (.ref 76), some (.int l1), some (.int l2), some (.int l3), some (.int l4), none, none] [] I J k := by
  refine (tt_f rfl).trans ?_
  refine (tt_il rfl).trans ?_
  refine (tt_f rfl).trans ?_
  exact tt_f1 (p := fun x => ¬ x = 0) inferInstance rfl
theorem B147_46 {l1 : Int32} {l2 : Int32} {l3 : Int32} {l4 : Int32}  : zd S 147 46 [some (.ref 76), some (.int l1), some (.int l2), some (.int l3), some (.int l4), none, none] [] I J k = if ¬ l4 = 0 then zd S 147 83 [some (.ref 76), some (.int l1), some (.int l2), some (.int l3), some (.int l4), some (.int 0), none] [] I J k else zd S 147 79 [some (.ref 76), some (.int l1), some (.int l2), some (.int l3), some (.int l4), some (.int 0), none] [] I J k := by
  refine (tt_fk rfl rfl).trans ?_
  refine tt_c.trans ?_
  refine (tt_f rfl).trans ?_
  refine tt_go.trans ?_
  refine (tt_fk rfl rfl).trans ?_
  refine (tt_is rfl rfl).trans ?_
  refine (tt_f rfl).trans ?_
  refine (tt_il rfl).trans ?_
  refine (tt_f rfl).trans ?_
  exact tt_f1 (p := fun x => ¬ x = 0) inferInstance rfl
theorem B147_50 {l1 : Int32} {l2 : Int32} {l3 : Int32} {l4 : Int32} {v3 : Int32} {I4 : zI} {J5 : zJ} (hb : Nat.ble k.1 (mBu 147).1 = true ∧ Nat.ble k.2 (mBu 147).2 = true) (hi1 : zin l1 164 = true) (hi2 : zin l1 164 = true) (hq : zq S 121 [.ref 76, .int l3, .int (I 96 l1.toNatClampNeg), .int (I 97 l1.toNatClampNeg)] I J (some (.int v3)) I4 J5) : zd S 147 50 [some (.ref 76), some (.int l1), some (.int l2), some (.int l3), some (.int l4), none, none] [] I J k = zd S 147 71 [some (.ref 76), some (.int l1), some (.int l2), some (.int l3), some (.int l4), none, none] [.int v3, .int (I 76 2)] I4 J5 k := by
  refine (tt_f rfl).trans ?_
  refine (tt_al rfl).trans ?_
  refine (tt_f rfl).trans ?_
  refine (tt_gi rfl rfl).trans ?_
  refine (tt_f rfl).trans ?_
  refine (tt_al rfl).trans ?_
  refine (tt_f rfl).trans ?_
  refine (tt_il rfl).trans ?_
  refine (tt_f rfl).trans ?_
  refine (tt_al rfl).trans ?_
  refine (tt_f rfl).trans ?_
  refine (tt_gr rfl rfl).trans ?_
  refine (tt_f rfl).trans ?_
  refine (tt_il rfl).trans ?_
  refine (tt_f rfl).trans ?_
  refine (tt_ga rfl rfl hi1).trans ?_
  refine (tt_f rfl).trans ?_
  refine (tt_al rfl).trans ?_
  refine (tt_f rfl).trans ?_
  refine (tt_gr rfl rfl).trans ?_
  refine (tt_f rfl).trans ?_
  refine (tt_il rfl).trans ?_
  refine (tt_f rfl).trans ?_
  refine (tt_ga rfl rfl hi2).trans ?_
  exact tt_cv (As := [.int l3, .int (I 96 l1.toNatClampNeg), .int (I 97 l1.toNatClampNeg)]) rfl hb.1 hb.2 rfl rfl rfl rfl rfl hq
theorem B147_71 {l1 : Int32} {l2 : Int32} {l3 : Int32} {l4 : Int32} {t0 : Int32} {t1 : Int32}  : zd S 147 71 [some (.ref 76), some (.int l1), some (.int l2), some (.int l3), some (.int l4), none, none] [.int t1, .int t0] I J k = if ¬ l4 = 0 then zd S 147 83 [some (.ref 76), some (.int l1), some (.int l2), some (.int l3), some (.int l4), some (.int (t0 - t1)), none] [] I J k else zd S 147 79 [some (.ref 76), some (.int l1), some (.int l2), some (.int l3), some (.int l4), some (.int (t0 - t1)), none] [] I J k := by
  refine (tt_f rfl).trans ?_
  refine tt_bi.trans ?_
  refine (tt_fk rfl rfl).trans ?_
  refine (tt_is rfl rfl).trans ?_
  refine (tt_f rfl).trans ?_
  refine (tt_il rfl).trans ?_
  refine (tt_f rfl).trans ?_
  exact tt_f1 (p := fun x => ¬ x = 0) inferInstance rfl
theorem B147_79 {l1 : Int32} {l2 : Int32} {l3 : Int32} {l4 : Int32} {l5 : Int32} (hi1 : zin l1 164 = true) (hi2 : zin l1 164 = true) : zd S 147 79 [some (.ref 76), some (.int l1), some (.int l2), some (.int l3), some (.int l4), some (.int l5), none] [] I J k = if ¬ l4 = 0 then zd S 147 118 [some (.ref 76), some (.int l1), some (.int l2), some (.int l3), some (.int l4), some (.int l5), some (.int 3)] [.int 3, .int l2, .int (I 97 l1.toNatClampNeg), .int (I 96 l1.toNatClampNeg), .int l3, .ref 76] I J k else zd S 147 114 [some (.ref 76), some (.int l1), some (.int l2), some (.int l3), some (.int l4), some (.int l5), some (.int 3)] [.int 3, .int l2, .int (I 97 l1.toNatClampNeg), .int (I 96 l1.toNatClampNeg), .int l3, .ref 76] I J k := by
  refine (tt_f rfl).trans ?_
  refine tt_c.trans ?_
  refine (tt_f rfl).trans ?_
  refine tt_go.trans ?_
  refine (tt_fk rfl rfl).trans ?_
  refine (tt_is rfl rfl).trans ?_
  refine (tt_f rfl).trans ?_
  refine (tt_al rfl).trans ?_
  refine (tt_f rfl).trans ?_
  refine (tt_il rfl).trans ?_
  refine (tt_f rfl).trans ?_
  refine (tt_al rfl).trans ?_
  refine (tt_f rfl).trans ?_
  refine (tt_gr rfl rfl).trans ?_
  refine (tt_f rfl).trans ?_
  refine (tt_il rfl).trans ?_
  refine (tt_f rfl).trans ?_
  refine (tt_ga rfl rfl hi1).trans ?_
  refine (tt_f rfl).trans ?_
  refine (tt_al rfl).trans ?_
  refine (tt_f rfl).trans ?_
  refine (tt_gr rfl rfl).trans ?_
  refine (tt_f rfl).trans ?_
  refine (tt_il rfl).trans ?_
  refine (tt_f rfl).trans ?_
  refine (tt_ga rfl rfl hi2).trans ?_
  refine (tt_f rfl).trans ?_
  refine (tt_il rfl).trans ?_
  refine (tt_f rfl).trans ?_
  refine (tt_il rfl).trans ?_
  refine (tt_f rfl).trans ?_
  refine (tt_il rfl).trans ?_
  refine (tt_f rfl).trans ?_
  exact tt_f1 (p := fun x => ¬ x = 0) inferInstance rfl
theorem B147_83 {l1 : Int32} {l2 : Int32} {l3 : Int32} {l4 : Int32} {l5 : Int32} (hy1 : ¬ l4 = 0) (hi2 : zin l1 164 = true) (hi3 : zin l1 164 = true) : zd S 147 83 [some (.ref 76), some (.int l1), some (.int l2), some (.int l3), some (.int l4), some (.int l5), none] [] I J k = if ¬ l4 = 0 then zd S 147 118 [some (.ref 76), some (.int l1), some (.int l2), some (.int l3), some (.int l4), some (.int l5), some (.int (3 + (l5 / l4)))] [.int (3 + (l5 / l4)), .int l2, .int (I 97 l1.toNatClampNeg), .int (I 96 l1.toNatClampNeg), .int l3, .ref 76] I J k else zd S 147 114 [some (.ref 76), some (.int l1), some (.int l2), some (.int l3), some (.int l4), some (.int l5), some (.int (3 + (l5 / l4)))] [.int (3 + (l5 / l4)), .int l2, .int (I 97 l1.toNatClampNeg), .int (I 96 l1.toNatClampNeg), .int l3, .ref 76] I J k := by
  refine (tt_f rfl).trans ?_
  refine tt_c.trans ?_
  refine (tt_f rfl).trans ?_
  refine (tt_il rfl).trans ?_
  refine (tt_f rfl).trans ?_
  refine (tt_il rfl).trans ?_
  refine (tt_f rfl).trans ?_
  refine (tt_bz hy1).trans ?_
  refine (tt_f rfl).trans ?_
  refine tt_bi.trans ?_
  refine (tt_fk rfl rfl).trans ?_
  refine (tt_is rfl rfl).trans ?_
  refine (tt_f rfl).trans ?_
  refine (tt_al rfl).trans ?_
  refine (tt_f rfl).trans ?_
  refine (tt_il rfl).trans ?_
  refine (tt_f rfl).trans ?_
  refine (tt_al rfl).trans ?_
  refine (tt_f rfl).trans ?_
  refine (tt_gr rfl rfl).trans ?_
  refine (tt_f rfl).trans ?_
  refine (tt_il rfl).trans ?_
  refine (tt_f rfl).trans ?_
  refine (tt_ga rfl rfl hi2).trans ?_
  refine (tt_f rfl).trans ?_
  refine (tt_al rfl).trans ?_
  refine (tt_f rfl).trans ?_
  refine (tt_gr rfl rfl).trans ?_
  refine (tt_f rfl).trans ?_
  refine (tt_il rfl).trans ?_
  refine (tt_f rfl).trans ?_
  refine (tt_ga rfl rfl hi3).trans ?_
  refine (tt_f rfl).trans ?_
  refine (tt_il rfl).trans ?_
  refine (tt_f rfl).trans ?_
  refine (tt_il rfl).trans ?_
  refine (tt_f rfl).trans ?_
  refine (tt_il rfl).trans ?_
  refine (tt_f rfl).trans ?_
  exact tt_f1 (p := fun x => ¬ x = 0) inferInstance rfl
theorem B147_114 {l1 : Int32} {l2 : Int32} {l3 : Int32} {l4 : Int32} {l5 : Int32} {l6 : Int32} {t1 : Int32} {t2 : Int32} {t3 : Int32} {t4 : Int32} {t5 : Int32} {v1 : Int32} {I2 : zI} {J3 : zJ} (hb : Nat.ble k.1 (mBu 147).1 = true ∧ Nat.ble k.2 (mBu 147).2 = true) (hq : zq S 146 [.ref 76, .int t1, .int t2, .int t3, .int t4, .int t5, .int 0] I J (some (.int v1)) I2 J3) : zd S 147 114 [some (.ref 76), some (.int l1), some (.int l2), some (.int l3), some (.int l4), some (.int l5), some (.int l6)] [.int t5, .int t4, .int t3, .int t2, .int t1, .ref 76] I J k = zd S 147 126 [some (.ref 76), some (.int l1), some (.int l2), some (.int l3), some (.int l4), some (.int l5), some (.int l6)] [.int v1] I2 J3 k := by
  refine (tt_f rfl).trans ?_
  refine tt_c.trans ?_
  refine (tt_f rfl).trans ?_
  refine tt_go.trans ?_
  exact tt_cv (As := [.int t1, .int t2, .int t3, .int t4, .int t5, .int 0]) rfl hb.1 hb.2 rfl rfl rfl rfl rfl hq
theorem B147_118 {l1 : Int32} {l2 : Int32} {l3 : Int32} {l4 : Int32} {l5 : Int32} {l6 : Int32} {t1 : Int32} {t2 : Int32} {t3 : Int32} {t4 : Int32} {t5 : Int32} {v2 : Int32} {I3 : zI} {J4 : zJ} (hb : Nat.ble k.1 (mBu 147).1 = true ∧ Nat.ble k.2 (mBu 147).2 = true) (hy1 : ¬ l4 = 0) (hq : zq S 146 [.ref 76, .int t1, .int t2, .int t3, .int t4, .int t5, .int (l5 - l5 / l4 * l4)] I J (some (.int v2)) I3 J4) : zd S 147 118 [some (.ref 76), some (.int l1), some (.int l2), some (.int l3), some (.int l4), some (.int l5), some (.int l6)] [.int t5, .int t4, .int t3, .int t2, .int t1, .ref 76] I J k = zd S 147 126 [some (.ref 76), some (.int l1), some (.int l2), some (.int l3), some (.int l4), some (.int l5), some (.int l6)] [.int v2] I3 J4 k := by
  refine (tt_f rfl).trans ?_
  refine (tt_il rfl).trans ?_
  refine (tt_f rfl).trans ?_
  refine (tt_il rfl).trans ?_
  refine (tt_f rfl).trans ?_
  refine (tt_bz hy1).trans ?_
  exact tt_cv (As := [.int t1, .int t2, .int t3, .int t4, .int t5, .int (l5 - l5 / l4 * l4)]) rfl hb.1 hb.2 rfl rfl rfl rfl rfl hq
theorem B147_126 {l1 : Int32} {l2 : Int32} {l3 : Int32} {l4 : Int32} {l5 : Int32} {l6 : Int32} {t0 : Int32}  : zd S 147 126 [some (.ref 76), some (.int l1), some (.int l2), some (.int l3), some (.int l4), some (.int l5), some (.int l6)] [.int t0] I J k = some ((some (.int t0)), mk I J, k) := by
  exact tt_r1 rfl rfl
/-! 148: EditionGridModel.ink -/
theorem B148_0 {l1 : Int32} {l2 : Int32} {l3 : Int32} {l4 : Int32} {v1 : Int32} {I2 : zI} {J3 : zJ} (hb : Nat.ble k.1 (mBu 148).1 = true ∧ Nat.ble k.2 (mBu 148).2 = true) (hq : zq S 144 [.ref 76, .int l1, .int l2, .int l3] I J (some (.int v1)) I2 J3) : zd S 148 0 [some (.ref 76), some (.int l1), some (.int l2), some (.int l3), some (.int l4), none, none, none, none] [] I J k = zd S 148 7 [some (.ref 76), some (.int l1), some (.int l2), some (.int l3), some (.int l4), none, none, none, none] [.int v1] I2 J3 k := by
  refine (tt_f rfl).trans ?_
  refine (tt_al rfl).trans ?_
  refine (tt_f rfl).trans ?_
  refine (tt_il rfl).trans ?_
  refine (tt_f rfl).trans ?_
  refine (tt_il rfl).trans ?_
  refine (tt_f rfl).trans ?_
  refine (tt_il rfl).trans ?_
  exact tt_cv (As := [.int l1, .int l2, .int l3]) rfl hb.1 hb.2 rfl rfl rfl rfl rfl hq
theorem B148_7 {l1 : Int32} {l2 : Int32} {l3 : Int32} {l4 : Int32} {t0 : Int32}  : zd S 148 7 [some (.ref 76), some (.int l1), some (.int l2), some (.int l3), some (.int l4), none, none, none, none] [.int t0] I J k = if t0 = 0 then zd S 148 24 [some (.ref 76), some (.int l1), some (.int l2), some (.int l3), some (.int l4), none, none, none, none] [] I J k else zd S 148 10 [some (.ref 76), some (.int l1), some (.int l2), some (.int l3), some (.int l4), none, none, none, none] [] I J k := by
  refine (tt_f rfl).trans ?_
  exact tt_f1 (p := fun x => x = 0) inferInstance rfl
theorem B148_10 {l1 : Int32} {l2 : Int32} {l3 : Int32} {l4 : Int32}  : zd S 148 10 [some (.ref 76), some (.int l1), some (.int l2), some (.int l3), some (.int l4), none, none, none, none] [] I J k = if l4 < 0 then zd S 148 24 [some (.ref 76), some (.int l1), some (.int l2), some (.int l3), some (.int l4), none, none, none, none] [] I J k else zd S 148 15 [some (.ref 76), some (.int l1), some (.int l2), some (.int l3), some (.int l4), none, none, none, none] [] I J k := by
  refine (tt_f rfl).trans ?_
  refine (tt_il rfl).trans ?_
  refine (tt_f rfl).trans ?_
  exact tt_f1 (p := fun x => x < 0) inferInstance rfl
theorem B148_15 {l1 : Int32} {l2 : Int32} {l3 : Int32} {l4 : Int32}  : zd S 148 15 [some (.ref 76), some (.int l1), some (.int l2), some (.int l3), some (.int l4), none, none, none, none] [] I J k = if l4 < (I 76 2) then zd S 148 26 [some (.ref 76), some (.int l1), some (.int l2), some (.int l3), some (.int l4), none, none, none, none] [] I J k else zd S 148 24 [some (.ref 76), some (.int l1), some (.int l2), some (.int l3), some (.int l4), none, none, none, none] [] I J k := by
  refine (tt_f rfl).trans ?_
  refine (tt_il rfl).trans ?_
  refine (tt_f rfl).trans ?_
  refine (tt_al rfl).trans ?_
  refine (tt_f rfl).trans ?_
  refine (tt_gi rfl rfl).trans ?_
  refine (tt_f rfl).trans ?_
  exact tt_f2 (p := fun x y => x < y) inferInstance rfl
theorem B148_24 {l1 : Int32} {l2 : Int32} {l3 : Int32} {l4 : Int32}  : zd S 148 24 [some (.ref 76), some (.int l1), some (.int l2), some (.int l3), some (.int l4), none, none, none, none] [] I J k = some ((some (.int (-1))), mk I J, k) := by
  refine (tt_fk rfl rfl).trans ?_
  refine tt_c.trans ?_
  exact tt_r1 rfl rfl
theorem B148_26 {l1 : Int32} {l2 : Int32} {l3 : Int32} {l4 : Int32} {v1 : Int32} {I2 : zI} {J3 : zJ} (hb : Nat.ble k.1 (mBu 148).1 = true ∧ Nat.ble k.2 (mBu 148).2 = true) (hq : zq S 145 [.ref 76, .int l1, .int l2, .int l3] I J (some (.int v1)) I2 J3) : zd S 148 26 [some (.ref 76), some (.int l1), some (.int l2), some (.int l3), some (.int l4), none, none, none, none] [] I J k = zd S 148 33 [some (.ref 76), some (.int l1), some (.int l2), some (.int l3), some (.int l4), none, none, none, none] [.int v1] I2 J3 k := by
  refine (tt_f rfl).trans ?_
  refine (tt_al rfl).trans ?_
  refine (tt_f rfl).trans ?_
  refine (tt_il rfl).trans ?_
  refine (tt_f rfl).trans ?_
  refine (tt_il rfl).trans ?_
  refine (tt_f rfl).trans ?_
  refine (tt_il rfl).trans ?_
  exact tt_cv (As := [.int l1, .int l2, .int l3]) rfl hb.1 hb.2 rfl rfl rfl rfl rfl hq
theorem B148_33 {l1 : Int32} {l2 : Int32} {l3 : Int32} {l4 : Int32} {t0 : Int32}  : zd S 148 33 [some (.ref 76), some (.int l1), some (.int l2), some (.int l3), some (.int l4), none, none, none, none] [.int t0] I J k = if t0 = 0 then zd S 148 63 [some (.ref 76), some (.int l1), some (.int l2), some (.int l3), some (.int l4), some (.int t0), some (.int ((t0 / 100) - 1)), some (.int (t0 - t0 / 100 * 100)), none] [] I J k else zd S 148 56 [some (.ref 76), some (.int l1), some (.int l2), some (.int l3), some (.int l4), some (.int t0), some (.int ((t0 / 100) - 1)), some (.int (t0 - t0 / 100 * 100)), none] [] I J k := by
  refine (tt_f rfl).trans ?_
  refine (tt_is rfl rfl).trans ?_
  refine (tt_f rfl).trans ?_
  refine (tt_il rfl).trans ?_
  refine (tt_f rfl).trans ?_
  refine tt_c.trans ?_
  refine (tt_f rfl).trans ?_
  refine (tt_bz (by decide)).trans ?_
  refine (tt_f rfl).trans ?_
  refine tt_c.trans ?_
  refine (tt_f rfl).trans ?_
  refine tt_bi.trans ?_
  refine (tt_f rfl).trans ?_
  refine (tt_is rfl rfl).trans ?_
  refine (tt_f rfl).trans ?_
  refine (tt_il rfl).trans ?_
  refine (tt_f rfl).trans ?_
  refine tt_c.trans ?_
  refine (tt_f rfl).trans ?_
  refine (tt_bz (by decide)).trans ?_
  refine (tt_f rfl).trans ?_
  refine (tt_is rfl rfl).trans ?_
  refine (tt_f rfl).trans ?_
  refine (tt_il rfl).trans ?_
  refine (tt_f rfl).trans ?_
  exact tt_f1 (p := fun x => x = 0) inferInstance rfl
theorem B148_56 {l1 : Int32} {l2 : Int32} {l3 : Int32} {l4 : Int32} {l5 : Int32} {l6 : Int32} {l7 : Int32}  : zd S 148 56 [some (.ref 76), some (.int l1), some (.int l2), some (.int l3), some (.int l4), some (.int l5), some (.int l6), some (.int l7), none] [] I J k = if ¬ l7 = 90 then zd S 148 65 [some (.ref 76), some (.int l1), some (.int l2), some (.int l3), some (.int l4), some (.int l5), some (.int l6), some (.int l7), none] [] I J k else zd S 148 63 [some (.ref 76), some (.int l1), some (.int l2), some (.int l3), some (.int l4), some (.int l5), some (.int l6), some (.int l7), none] [] I J k := by
  refine (tt_f rfl).trans ?_
  refine (tt_il rfl).trans ?_
  refine (tt_f rfl).trans ?_
  refine tt_c.trans ?_
  refine (tt_f rfl).trans ?_
  exact tt_f2 (p := fun x y => ¬ x = y) inferInstance rfl
theorem B148_63 {l1 : Int32} {l2 : Int32} {l3 : Int32} {l4 : Int32} {l5 : Int32} {l6 : Int32} {l7 : Int32}  : zd S 148 63 [some (.ref 76), some (.int l1), some (.int l2), some (.int l3), some (.int l4), some (.int l5), some (.int l6), some (.int l7), none] [] I J k = some ((some (.int 0)), mk I J, k) := by
  refine (tt_fk rfl rfl).trans ?_
  refine tt_c.trans ?_
  exact tt_r1 rfl rfl
theorem B148_65 {l1 : Int32} {l2 : Int32} {l3 : Int32} {l4 : Int32} {l5 : Int32} {l6 : Int32} {l7 : Int32}  : zd S 148 65 [some (.ref 76), some (.int l1), some (.int l2), some (.int l3), some (.int l4), some (.int l5), some (.int l6), some (.int l7), none] [] I J k = if ¬ l7 = 80 then zd S 148 121 [some (.ref 76), some (.int l1), some (.int l2), some (.int l3), some (.int l4), some (.int l5), some (.int l6), some (.int l7), none] [] I J k else zd S 148 72 [some (.ref 76), some (.int l1), some (.int l2), some (.int l3), some (.int l4), some (.int l5), some (.int l6), some (.int l7), none] [] I J k := by
  refine (tt_f rfl).trans ?_
  refine (tt_il rfl).trans ?_
  refine (tt_f rfl).trans ?_
  refine tt_c.trans ?_
  refine (tt_f rfl).trans ?_
  exact tt_f2 (p := fun x y => ¬ x = y) inferInstance rfl
theorem B148_72 {l1 : Int32} {l2 : Int32} {l3 : Int32} {l4 : Int32} {l5 : Int32} {l6 : Int32} {l7 : Int32} {v3 : Int32} {I4 : zI} {J5 : zJ} (hb : Nat.ble k.1 (mBu 148).1 = true ∧ Nat.ble k.2 (mBu 148).2 = true) (hi1 : zin ((22 * l6) + 1) 88 = true) (hi2 : zin (16 + l6) 20 = true) (hq : zq S 146 [.ref 76, .int (16 + l6), .int 0, .int (I 92 (16 + l6).toNatClampNeg), .int (((I 76 2) * (l2 - (I 104 ((22 * l6) + 1).toNatClampNeg))) + l4), .int 3, .int 0] I J (some (.int v3)) I4 J5) : zd S 148 72 [some (.ref 76), some (.int l1), some (.int l2), some (.int l3), some (.int l4), some (.int l5), some (.int l6), some (.int l7), none] [] I J k = zd S 148 120 [some (.ref 76), some (.int l1), some (.int l2), some (.int l3), some (.int l4), some (.int l5), some (.int l6), some (.int l7), some (.int ((I 76 2) * (l2 - (I 104 ((22 * l6) + 1).toNatClampNeg))))] [.int v3] I4 J5 k := by
  refine (tt_f rfl).trans ?_
  refine (tt_al rfl).trans ?_
  refine (tt_f rfl).trans ?_
  refine (tt_gi rfl rfl).trans ?_
  refine (tt_f rfl).trans ?_
  refine (tt_il rfl).trans ?_
  refine (tt_f rfl).trans ?_
  refine (tt_al rfl).trans ?_
  refine (tt_f rfl).trans ?_
  refine (tt_gr rfl rfl).trans ?_
  refine (tt_f rfl).trans ?_
  refine tt_c.trans ?_
  refine (tt_f rfl).trans ?_
  refine (tt_il rfl).trans ?_
  refine (tt_f rfl).trans ?_
  refine tt_bi.trans ?_
  refine (tt_f rfl).trans ?_
  refine tt_c.trans ?_
  refine (tt_f rfl).trans ?_
  refine tt_bi.trans ?_
  refine (tt_f rfl).trans ?_
  refine (tt_ga rfl rfl hi1).trans ?_
  refine (tt_f rfl).trans ?_
  refine tt_bi.trans ?_
  refine (tt_f rfl).trans ?_
  refine tt_bi.trans ?_
  refine (tt_f rfl).trans ?_
  refine (tt_is rfl rfl).trans ?_
  refine (tt_f rfl).trans ?_
  refine (tt_al rfl).trans ?_
  refine (tt_f rfl).trans ?_
  refine tt_c.trans ?_
  refine (tt_f rfl).trans ?_
  refine (tt_il rfl).trans ?_
  refine (tt_f rfl).trans ?_
  refine tt_bi.trans ?_
  refine (tt_f rfl).trans ?_
  refine tt_c.trans ?_
  refine (tt_f rfl).trans ?_
  refine (tt_al rfl).trans ?_
  refine (tt_f rfl).trans ?_
  refine (tt_gr rfl rfl).trans ?_
  refine (tt_f rfl).trans ?_
  refine tt_c.trans ?_
  refine (tt_f rfl).trans ?_
  refine (tt_il rfl).trans ?_
  refine (tt_f rfl).trans ?_
  refine tt_bi.trans ?_
  refine (tt_f rfl).trans ?_
  refine (tt_ga rfl rfl hi2).trans ?_
  refine (tt_f rfl).trans ?_
  refine (tt_il rfl).trans ?_
  refine (tt_f rfl).trans ?_
  refine (tt_il rfl).trans ?_
  refine (tt_f rfl).trans ?_
  refine tt_bi.trans ?_
  refine (tt_f rfl).trans ?_
  refine tt_c.trans ?_
  refine (tt_f rfl).trans ?_
  refine tt_c.trans ?_
  exact tt_cv (As := [.int (16 + l6), .int 0, .int (I 92 (16 + l6).toNatClampNeg), .int (((I 76 2) * (l2 - (I 104 ((22 * l6) + 1).toNatClampNeg))) + l4), .int 3, .int 0]) rfl hb.1 hb.2 rfl rfl rfl rfl rfl hq
theorem B148_120 {l1 : Int32} {l2 : Int32} {l3 : Int32} {l4 : Int32} {l5 : Int32} {l6 : Int32} {l7 : Int32} {l8 : Int32} {t0 : Int32}  : zd S 148 120 [some (.ref 76), some (.int l1), some (.int l2), some (.int l3), some (.int l4), some (.int l5), some (.int l6), some (.int l7), some (.int l8)] [.int t0] I J k = some ((some (.int t0)), mk I J, k) := by
  exact tt_r1 rfl rfl
theorem B148_121 {l1 : Int32} {l2 : Int32} {l3 : Int32} {l4 : Int32} {l5 : Int32} {l6 : Int32} {l7 : Int32}  : zd S 148 121 [some (.ref 76), some (.int l1), some (.int l2), some (.int l3), some (.int l4), some (.int l5), some (.int l6), some (.int l7), none] [] I J k = if ¬ l7 = 81 then zd S 148 131 [some (.ref 76), some (.int l1), some (.int l2), some (.int l3), some (.int l4), some (.int l5), some (.int l6), some (.int l7), none] [] I J k else zd S 148 128 [some (.ref 76), some (.int l1), some (.int l2), some (.int l3), some (.int l4), some (.int l5), some (.int l6), some (.int l7), none] [] I J k := by
  refine (tt_f rfl).trans ?_
  refine (tt_il rfl).trans ?_
  refine (tt_f rfl).trans ?_
  refine tt_c.trans ?_
  refine (tt_f rfl).trans ?_
  exact tt_f2 (p := fun x y => ¬ x = y) inferInstance rfl
theorem B148_128 {l1 : Int32} {l2 : Int32} {l3 : Int32} {l4 : Int32} {l5 : Int32} {l6 : Int32} {l7 : Int32}  : zd S 148 128 [some (.ref 76), some (.int l1), some (.int l2), some (.int l3), some (.int l4), some (.int l5), some (.int l6), some (.int l7), none] [] I J k = some ((some (.int 35)), mk I J, k) := by
  refine (tt_f rfl).trans ?_
  refine tt_c.trans ?_
  exact tt_r1 rfl rfl
theorem B148_131 {l1 : Int32} {l2 : Int32} {l3 : Int32} {l4 : Int32} {l5 : Int32} {l6 : Int32} {l7 : Int32}  : zd S 148 131 [some (.ref 76), some (.int l1), some (.int l2), some (.int l3), some (.int l4), some (.int l5), some (.int l6), some (.int l7), none] [] I J k = if l7 ≤ 81 then zd S 148 202 [some (.ref 76), some (.int l1), some (.int l2), some (.int l3), some (.int l4), some (.int l5), some (.int l6), some (.int l7), none] [] I J k else zd S 148 138 [some (.ref 76), some (.int l1), some (.int l2), some (.int l3), some (.int l4), some (.int l5), some (.int l6), some (.int l7), none] [] I J k := by
  refine (tt_f rfl).trans ?_
  refine (tt_il rfl).trans ?_
  refine (tt_f rfl).trans ?_
  refine tt_c.trans ?_
  refine (tt_f rfl).trans ?_
  exact tt_f2 (p := fun x y => x ≤ y) inferInstance rfl
theorem B148_138 {l1 : Int32} {l2 : Int32} {l3 : Int32} {l4 : Int32} {l5 : Int32} {l6 : Int32} {l7 : Int32}  : zd S 148 138 [some (.ref 76), some (.int l1), some (.int l2), some (.int l3), some (.int l4), some (.int l5), some (.int l6), some (.int l7), none] [] I J k = if ¬ l7 = 82 then zd S 148 161 [some (.ref 76), some (.int l1), some (.int l2), some (.int l3), some (.int l4), some (.int l5), some (.int l6), some (.int l7), none] [.int (22 * l6), .ref 104, .int 49] I J k else zd S 148 156 [some (.ref 76), some (.int l1), some (.int l2), some (.int l3), some (.int l4), some (.int l5), some (.int l6), some (.int l7), none] [.int (22 * l6), .ref 104, .int 49] I J k := by
  refine (tt_f rfl).trans ?_
  refine tt_c.trans ?_
  refine (tt_f rfl).trans ?_
  refine (tt_al rfl).trans ?_
  refine (tt_f rfl).trans ?_
  refine (tt_gr rfl rfl).trans ?_
  refine (tt_f rfl).trans ?_
  refine tt_c.trans ?_
  refine (tt_f rfl).trans ?_
  refine (tt_il rfl).trans ?_
  refine (tt_f rfl).trans ?_
  refine tt_bi.trans ?_
  refine (tt_f rfl).trans ?_
  refine (tt_il rfl).trans ?_
  refine (tt_f rfl).trans ?_
  refine tt_c.trans ?_
  refine (tt_f rfl).trans ?_
  exact tt_f2 (p := fun x y => ¬ x = y) inferInstance rfl
theorem B148_156 {l1 : Int32} {l2 : Int32} {l3 : Int32} {l4 : Int32} {l5 : Int32} {l6 : Int32} {l7 : Int32} {t0 : Int32} {t2 : Int32} (hi1 : zin (t2 + 11) 88 = true) : zd S 148 156 [some (.ref 76), some (.int l1), some (.int l2), some (.int l3), some (.int l4), some (.int l5), some (.int l6), some (.int l7), none] [.int t2, .ref 104, .int t0] I J k = if ¬ l4 = 0 then zd S 148 189 [none, none, none, none, some (.int l4), none, none, some (.int l7), some (.int (t0 + (I 104 (t2 + 11).toNatClampNeg)))] [] I J k else zd S 148 172 [none, none, none, none, some (.int l4), none, none, some (.int l7), some (.int (t0 + (I 104 (t2 + 11).toNatClampNeg)))] [] I J k := by
  refine (tt_f rfl).trans ?_
  refine tt_c.trans ?_
  refine (tt_f rfl).trans ?_
  refine tt_go.trans ?_
  refine (tt_fk rfl rfl).trans ?_
  refine tt_bi.trans ?_
  refine (tt_f rfl).trans ?_
  refine (tt_ga rfl rfl hi1).trans ?_
  refine (tt_f rfl).trans ?_
  refine tt_bi.trans ?_
  refine (tt_f rfl).trans ?_
  refine (tt_is rfl rfl).trans ?_
  refine (tt_f rfl).trans ?_
  refine (tt_il rfl).trans ?_
  refine (tt_f rfl).trans ?_
  exact tt_f1 (p := fun x => ¬ x = 0) inferInstance rfl
theorem B148_161 {l1 : Int32} {l2 : Int32} {l3 : Int32} {l4 : Int32} {l5 : Int32} {l6 : Int32} {l7 : Int32} {t0 : Int32} {t2 : Int32} (hi1 : zin (t2 + 0) 88 = true) : zd S 148 161 [some (.ref 76), some (.int l1), some (.int l2), some (.int l3), some (.int l4), some (.int l5), some (.int l6), some (.int l7), none] [.int t2, .ref 104, .int t0] I J k = if ¬ l4 = 0 then zd S 148 189 [none, none, none, none, some (.int l4), none, none, some (.int l7), some (.int (t0 + (I 104 (t2 + 0).toNatClampNeg)))] [] I J k else zd S 148 172 [none, none, none, none, some (.int l4), none, none, some (.int l7), some (.int (t0 + (I 104 (t2 + 0).toNatClampNeg)))] [] I J k := by
  refine (tt_f rfl).trans ?_
  refine tt_c.trans ?_
  refine (tt_fk rfl rfl).trans ?_
  refine tt_bi.trans ?_
  refine (tt_f rfl).trans ?_
  refine (tt_ga rfl rfl hi1).trans ?_
  refine (tt_f rfl).trans ?_
  refine tt_bi.trans ?_
  refine (tt_f rfl).trans ?_
  refine (tt_is rfl rfl).trans ?_
  refine (tt_f rfl).trans ?_
  refine (tt_il rfl).trans ?_
  refine (tt_f rfl).trans ?_
  exact tt_f1 (p := fun x => ¬ x = 0) inferInstance rfl
theorem B148_172 {l4 : Int32} {l7 : Int32} {l8 : Int32}  : zd S 148 172 [none, none, none, none, some (.int l4), none, none, some (.int l7), some (.int l8)] [] I J k = if ¬ l7 = 82 then zd S 148 184 [none, none, none, none, some (.int l4), none, none, some (.int l7), some (.int l8)] [] I J k else zd S 148 179 [none, none, none, none, some (.int l4), none, none, some (.int l7), some (.int l8)] [] I J k := by
  refine (tt_f rfl).trans ?_
  refine (tt_il rfl).trans ?_
  refine (tt_f rfl).trans ?_
  refine tt_c.trans ?_
  refine (tt_f rfl).trans ?_
  exact tt_f2 (p := fun x y => ¬ x = y) inferInstance rfl
theorem B148_179 {l4 : Int32} {l7 : Int32} {l8 : Int32}  : zd S 148 179 [none, none, none, none, some (.int l4), none, none, some (.int l7), some (.int l8)] [] I J k = some ((some (.int 62)), mk I J, k) := by
  refine (tt_f rfl).trans ?_
  refine tt_c.trans ?_
  refine (tt_f rfl).trans ?_
  refine tt_go.trans ?_
  exact tt_r1 rfl rfl
theorem B148_184 {l4 : Int32} {l7 : Int32} {l8 : Int32}  : zd S 148 184 [none, none, none, none, some (.int l4), none, none, some (.int l7), some (.int l8)] [] I J k = some ((some (.int 60)), mk I J, k) := by
  refine (tt_f rfl).trans ?_
  refine tt_c.trans ?_
  refine (tt_f rfl).trans ?_
  refine tt_go.trans ?_
  exact tt_r1 rfl rfl
theorem B148_189 {l4 : Int32} {l7 : Int32} {l8 : Int32}  : zd S 148 189 [none, none, none, none, some (.int l4), none, none, some (.int l7), some (.int l8)] [] I J k = if ¬ l4 = 1 then zd S 148 200 [none, none, none, none, some (.int l4), none, none, some (.int l7), some (.int l8)] [] I J k else zd S 148 195 [none, none, none, none, some (.int l4), none, none, some (.int l7), some (.int l8)] [] I J k := by
  refine (tt_f rfl).trans ?_
  refine (tt_il rfl).trans ?_
  refine (tt_f rfl).trans ?_
  refine tt_c.trans ?_
  refine (tt_f rfl).trans ?_
  exact tt_f2 (p := fun x y => ¬ x = y) inferInstance rfl
theorem B148_195 {l4 : Int32} {l7 : Int32} {l8 : Int32}  : zd S 148 195 [none, none, none, none, some (.int l4), none, none, some (.int l7), some (.int l8)] [] I J k = some ((some (.int l8)), mk I J, k) := by
  refine (tt_f rfl).trans ?_
  refine (tt_il rfl).trans ?_
  refine (tt_f rfl).trans ?_
  refine tt_go.trans ?_
  exact tt_r1 rfl rfl
theorem B148_200 {l4 : Int32} {l7 : Int32} {l8 : Int32}  : zd S 148 200 [none, none, none, none, some (.int l4), none, none, some (.int l7), some (.int l8)] [] I J k = some ((some (.int 0)), mk I J, k) := by
  refine (tt_f rfl).trans ?_
  refine tt_c.trans ?_
  exact tt_r1 rfl rfl
theorem B148_202 {l1 : Int32} {l2 : Int32} {l3 : Int32} {l4 : Int32} {l5 : Int32} {l6 : Int32} {l7 : Int32} {v1 : Int32} {I2 : zI} {J3 : zJ} (hb : Nat.ble k.1 (mBu 148).1 = true ∧ Nat.ble k.2 (mBu 148).2 = true) (hq : zq S 147 [.ref 76, .int ((41 * l6) + l7), .int l4] I J (some (.int v1)) I2 J3) : zd S 148 202 [some (.ref 76), some (.int l1), some (.int l2), some (.int l3), some (.int l4), some (.int l5), some (.int l6), some (.int l7), none] [] I J k = zd S 148 216 [some (.ref 76), some (.int l1), some (.int l2), some (.int l3), some (.int l4), some (.int l5), some (.int l6), some (.int l7), none] [.int v1] I2 J3 k := by
  refine (tt_f rfl).trans ?_
  refine (tt_al rfl).trans ?_
  refine (tt_f rfl).trans ?_
  refine tt_c.trans ?_
  refine (tt_f rfl).trans ?_
  refine (tt_il rfl).trans ?_
  refine (tt_f rfl).trans ?_
  refine tt_bi.trans ?_
  refine (tt_f rfl).trans ?_
  refine (tt_il rfl).trans ?_
  refine (tt_f rfl).trans ?_
  refine tt_bi.trans ?_
  refine (tt_f rfl).trans ?_
  refine (tt_il rfl).trans ?_
  exact tt_cv (As := [.int ((41 * l6) + l7), .int l4]) rfl hb.1 hb.2 rfl rfl rfl rfl rfl hq
theorem B148_216 {l1 : Int32} {l2 : Int32} {l3 : Int32} {l4 : Int32} {l5 : Int32} {l6 : Int32} {l7 : Int32} {t0 : Int32}  : zd S 148 216 [some (.ref 76), some (.int l1), some (.int l2), some (.int l3), some (.int l4), some (.int l5), some (.int l6), some (.int l7), none] [.int t0] I J k = some ((some (.int t0)), mk I J, k) := by
  exact tt_r1 rfl rfl
/-! 149: java/util/Arrays.fill -/
theorem B149_0 {l1 : Int32} {c0 n0 : Nat} (hc0 : zShL[c0]? = some (.inr (.inl (0, n0)))) : zd S 149 0 [some (.ref c0), some (.int l1), none, none] [] I J k = zd S 149 5 [some (.ref c0), some (.int l1), some (.int 0), some (.int (Int32.ofNat n0))] [] I J k := by
  refine (tt_f rfl).trans ?_
  refine tt_c.trans ?_
  refine (tt_f rfl).trans ?_
  refine (tt_is rfl rfl).trans ?_
  refine (tt_f rfl).trans ?_
  refine (tt_al rfl).trans ?_
  refine (tt_f rfl).trans ?_
  refine (tt_le hc0).trans ?_
  refine (tt_f rfl).trans ?_
  refine (tt_is rfl rfl).trans ?_
  rfl
theorem B149_5 {l1 : Int32} {l2 : Int32} {l3 : Int32} {c0 n0 : Nat} (hc0 : zShL[c0]? = some (.inr (.inl (0, n0)))) : zd S 149 5 [some (.ref c0), some (.int l1), some (.int l2), some (.int l3)] [] I J k = if l3 ≤ l2 then zd S 149 20 [some (.ref c0), some (.int l1), some (.int l2), some (.int l3)] [] I J k else zd S 149 10 [some (.ref c0), some (.int l1), some (.int l2), some (.int l3)] [] I J k := by
  refine (tt_fk rfl rfl).trans ?_
  refine (tt_il rfl).trans ?_
  refine (tt_f rfl).trans ?_
  refine (tt_il rfl).trans ?_
  refine (tt_f rfl).trans ?_
  exact tt_f2 (p := fun x y => y ≤ x) inferInstance rfl
theorem B149_10 {l1 : Int32} {l2 : Int32} {l3 : Int32} {c0 n0 : Nat} (hc0 : zShL[c0]? = some (.inr (.inl (0, n0)))) (hi1 : zin l2 n0 = true) : zd S 149 10 [some (.ref c0), some (.int l1), some (.int l2), some (.int l3)] [] I J k = zd S 149 14 [some (.ref c0), some (.int l1), some (.int l2), some (.int l3)] [] (u2 I c0 l2.toNatClampNeg l1) J k := by
  refine (tt_f rfl).trans ?_
  refine (tt_al rfl).trans ?_
  refine (tt_f rfl).trans ?_
  refine (tt_il rfl).trans ?_
  refine (tt_f rfl).trans ?_
  refine (tt_il rfl).trans ?_
  refine (tt_f rfl).trans ?_
  exact tt_pa hc0 rfl hi1
theorem B149_14 {l1 : Int32} {l2 : Int32} {l3 : Int32} {c0 n0 : Nat} (hc0 : zShL[c0]? = some (.inr (.inl (0, n0)))) : zd S 149 14 [some (.ref c0), some (.int l1), some (.int l2), some (.int l3)] [] I J k = zd S 149 5 [some (.ref c0), some (.int l1), some (.int (l2 + 1)), some (.int l3)] [] I J k := by
  refine (tt_f rfl).trans ?_
  refine (tt_in rfl rfl).trans ?_
  refine (tt_f rfl).trans ?_
  refine tt_go.trans ?_
  rfl
theorem B149_20 {l1 : Int32} {l2 : Int32} {l3 : Int32} {c0 n0 : Nat} (hc0 : zShL[c0]? = some (.inr (.inl (0, n0)))) : zd S 149 20 [some (.ref c0), some (.int l1), some (.int l2), some (.int l3)] [] I J k = some (none, mk I J, k) := by
  exact tt_rv rfl
end BL
