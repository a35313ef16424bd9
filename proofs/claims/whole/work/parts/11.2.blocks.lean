section BL
variable {S : Nat × (Nat → Int32)} {I : zI} {J : zJ} {k : zK}
/-! 79: Reader.next -/
theorem B79_0   : zd S 79 0 [some (.ref 4)] [] I J k = if (I 4 2) ≤ (I 4 3) then zd S 79 23 [some (.ref 4)] [] I J k else zd S 79 11 [some (.ref 4)] [] I J k := by
  refine (tt_f rfl).trans ?_
  refine (tt_al rfl).trans ?_
  refine (tt_f rfl).trans ?_
  refine (tt_gi rfl rfl).trans ?_
  refine (tt_f rfl).trans ?_
  refine (tt_al rfl).trans ?_
  refine (tt_f rfl).trans ?_
  refine (tt_gi rfl rfl).trans ?_
  refine (tt_f rfl).trans ?_
  exact tt_f2 (p := fun x y => y ≤ x) inferInstance rfl
theorem B79_11  (hi1 : zin (I 4 3) 480 = true) : zd S 79 11 [some (.ref 4)] [] I J k = some ((some (.int (I 5 (I 4 3).toNatClampNeg))), mk I J, k) := by
  refine (tt_f rfl).trans ?_
  refine (tt_al rfl).trans ?_
  refine (tt_f rfl).trans ?_
  refine (tt_gr rfl rfl).trans ?_
  refine (tt_f rfl).trans ?_
  refine (tt_al rfl).trans ?_
  refine (tt_f rfl).trans ?_
  refine (tt_gi rfl rfl).trans ?_
  refine (tt_f rfl).trans ?_
  refine (tt_ga rfl rfl hi1).trans ?_
  refine (tt_f rfl).trans ?_
  refine tt_go.trans ?_
  exact tt_r1 rfl rfl
theorem B79_23   : zd S 79 23 [some (.ref 4)] [] I J k = some ((some (.int (-1))), mk I J, k) := by
  refine (tt_f rfl).trans ?_
  refine tt_c.trans ?_
  exact tt_r1 rfl rfl
/-! 81: Sheets.wipe -/
theorem B81_0 {I1 : zI} {J2 : zJ} (hb : Nat.ble k.1 (mBu 81).1 = true ∧ Nat.ble k.2 (mBu 81).2 = true) (hq : zq S 149 [.ref 71, .int 0] I J none I1 J2) : zd S 81 0 [some (.ref 70)] [] I J k = zd S 81 8 [some (.ref 70)] [] I1 J2 k := by
  refine (tt_f rfl).trans ?_
  refine (tt_al rfl).trans ?_
  refine (tt_f rfl).trans ?_
  refine (tt_gr rfl rfl).trans ?_
  refine (tt_f rfl).trans ?_
  refine tt_c.trans ?_
  exact tt_cs (vs := [.ref 71, .int 0]) rfl hb.1 hb.2 rfl rfl rfl rfl hq
theorem B81_8 {I1 : zI} {J2 : zJ} (hb : Nat.ble k.1 (mBu 81).1 = true ∧ Nat.ble k.2 (mBu 81).2 = true) (hq : zq S 149 [.ref 72, .int 0] I J none I1 J2) : zd S 81 8 [some (.ref 70)] [] I J k = zd S 81 16 [some (.ref 70)] [] I1 J2 k := by
  refine (tt_f rfl).trans ?_
  refine (tt_al rfl).trans ?_
  refine (tt_f rfl).trans ?_
  refine (tt_gr rfl rfl).trans ?_
  refine (tt_f rfl).trans ?_
  refine tt_c.trans ?_
  exact tt_cs (vs := [.ref 72, .int 0]) rfl hb.1 hb.2 rfl rfl rfl rfl hq
theorem B81_16   : zd S 81 16 [some (.ref 70)] [] I J k = some (none, mk I J, k) := by
  exact tt_rv rfl
/-! 82: Sheets.has -/
theorem B82_0 {l1 : Int32} {l2 : Int32} {l3 : Int32}  : zd S 82 0 [some (.ref 70), some (.int l1), some (.int l2), some (.int l3)] [] I J k = if l1 < 0 then zd S 82 37 [some (.ref 70), some (.int l1), some (.int l2), some (.int l3)] [] I J k else zd S 82 4 [some (.ref 70), some (.int l1), some (.int l2), some (.int l3)] [] I J k := by
  refine (tt_f rfl).trans ?_
  refine (tt_il rfl).trans ?_
  refine (tt_f rfl).trans ?_
  exact tt_f1 (p := fun x => x < 0) inferInstance rfl
theorem B82_4 {l1 : Int32} {l2 : Int32} {l3 : Int32}  : zd S 82 4 [some (.ref 70), some (.int l1), some (.int l2), some (.int l3)] [] I J k = if 3 ≤ l1 then zd S 82 37 [some (.ref 70), some (.int l1), some (.int l2), some (.int l3)] [] I J k else zd S 82 9 [some (.ref 70), some (.int l1), some (.int l2), some (.int l3)] [] I J k := by
  refine (tt_f rfl).trans ?_
  refine (tt_il rfl).trans ?_
  refine (tt_f rfl).trans ?_
  refine tt_c.trans ?_
  refine (tt_f rfl).trans ?_
  exact tt_f2 (p := fun x y => y ≤ x) inferInstance rfl
theorem B82_9 {l1 : Int32} {l2 : Int32} {l3 : Int32}  : zd S 82 9 [some (.ref 70), some (.int l1), some (.int l2), some (.int l3)] [] I J k = if l2 < 0 then zd S 82 37 [some (.ref 70), some (.int l1), some (.int l2), some (.int l3)] [] I J k else zd S 82 13 [some (.ref 70), some (.int l1), some (.int l2), some (.int l3)] [] I J k := by
  refine (tt_f rfl).trans ?_
  refine (tt_il rfl).trans ?_
  refine (tt_f rfl).trans ?_
  exact tt_f1 (p := fun x => x < 0) inferInstance rfl
theorem B82_13 {l1 : Int32} {l2 : Int32} {l3 : Int32}  : zd S 82 13 [some (.ref 70), some (.int l1), some (.int l2), some (.int l3)] [] I J k = if (I 70 0) ≤ l2 then zd S 82 37 [some (.ref 70), some (.int l1), some (.int l2), some (.int l3)] [] I J k else zd S 82 21 [some (.ref 70), some (.int l1), some (.int l2), some (.int l3)] [] I J k := by
  refine (tt_f rfl).trans ?_
  refine (tt_il rfl).trans ?_
  refine (tt_f rfl).trans ?_
  refine (tt_al rfl).trans ?_
  refine (tt_f rfl).trans ?_
  refine (tt_gi rfl rfl).trans ?_
  refine (tt_f rfl).trans ?_
  exact tt_f2 (p := fun x y => y ≤ x) inferInstance rfl
theorem B82_21 {l1 : Int32} {l2 : Int32} {l3 : Int32}  : zd S 82 21 [some (.ref 70), some (.int l1), some (.int l2), some (.int l3)] [] I J k = if l3 < 0 then zd S 82 37 [some (.ref 70), some (.int l1), some (.int l2), some (.int l3)] [] I J k else zd S 82 25 [some (.ref 70), some (.int l1), some (.int l2), some (.int l3)] [] I J k := by
  refine (tt_f rfl).trans ?_
  refine (tt_il rfl).trans ?_
  refine (tt_f rfl).trans ?_
  exact tt_f1 (p := fun x => x < 0) inferInstance rfl
theorem B82_25 {l1 : Int32} {l2 : Int32} {l3 : Int32}  : zd S 82 25 [some (.ref 70), some (.int l1), some (.int l2), some (.int l3)] [] I J k = if (I 70 1) ≤ l3 then zd S 82 37 [some (.ref 70), some (.int l1), some (.int l2), some (.int l3)] [] I J k else zd S 82 33 [some (.ref 70), some (.int l1), some (.int l2), some (.int l3)] [] I J k := by
  refine (tt_f rfl).trans ?_
  refine (tt_il rfl).trans ?_
  refine (tt_f rfl).trans ?_
  refine (tt_al rfl).trans ?_
  refine (tt_f rfl).trans ?_
  refine (tt_gi rfl rfl).trans ?_
  refine (tt_f rfl).trans ?_
  exact tt_f2 (p := fun x y => y ≤ x) inferInstance rfl
theorem B82_33 {l1 : Int32} {l2 : Int32} {l3 : Int32} (hz : zrt 2 (.int 1) = true) : zd S 82 33 [some (.ref 70), some (.int l1), some (.int l2), some (.int l3)] [] I J k = some ((some (.int 1)), mk I J, k) := by
  refine (tt_f rfl).trans ?_
  refine tt_c.trans ?_
  refine (tt_f rfl).trans ?_
  refine tt_go.trans ?_
  exact tt_r1 rfl hz
theorem B82_37 {l1 : Int32} {l2 : Int32} {l3 : Int32} (hz : zrt 2 (.int 0) = true) : zd S 82 37 [some (.ref 70), some (.int l1), some (.int l2), some (.int l3)] [] I J k = some ((some (.int 0)), mk I J, k) := by
  refine (tt_fk rfl rfl).trans ?_
  refine tt_c.trans ?_
  exact tt_r1 rfl hz
/-! 83: Sheets.codeAt -/
theorem B83_0 {l1 : Int32} {l2 : Int32} {l3 : Int32} (hi1 : zin ((((l1 * 4) + l2) * 16) + l3) 192 = true) : zd S 83 0 [some (.ref 70), some (.int l1), some (.int l2), some (.int l3)] [] I J k = some ((some (.int (I 71 ((((l1 * 4) + l2) * 16) + l3).toNatClampNeg))), mk I J, k) := by
  refine (tt_f rfl).trans ?_
  refine (tt_al rfl).trans ?_
  refine (tt_f rfl).trans ?_
  refine (tt_gr rfl rfl).trans ?_
  refine (tt_f rfl).trans ?_
  refine (tt_il rfl).trans ?_
  refine (tt_f rfl).trans ?_
  refine tt_c.trans ?_
  refine (tt_f rfl).trans ?_
  refine tt_bi.trans ?_
  refine (tt_f rfl).trans ?_
  refine (tt_il rfl).trans ?_
  refine (tt_f rfl).trans ?_
  refine tt_bi.trans ?_
  refine (tt_f rfl).trans ?_
  refine tt_c.trans ?_
  refine (tt_f rfl).trans ?_
  refine tt_bi.trans ?_
  refine (tt_f rfl).trans ?_
  refine (tt_il rfl).trans ?_
  refine (tt_f rfl).trans ?_
  refine tt_bi.trans ?_
  refine (tt_f rfl).trans ?_
  refine (tt_ga rfl rfl hi1).trans ?_
  exact tt_r1 rfl rfl
/-! 84: Sheets.put -/
theorem B84_0 {l1 : Int32} {l2 : Int32} {l3 : Int32} {l4 : Int32} (hi1 : zin ((((l1 * 4) + l2) * 16) + l3) 192 = true) : zd S 84 0 [some (.ref 70), some (.int l1), some (.int l2), some (.int l3), some (.int l4)] [] I J k = zd S 84 17 [some (.ref 70), some (.int l1), some (.int l2), some (.int l3), some (.int l4)] [] (u2 I 71 ((((l1 * 4) + l2) * 16) + l3).toNatClampNeg l4) J k := by
  refine (tt_f rfl).trans ?_
  refine (tt_al rfl).trans ?_
  refine (tt_f rfl).trans ?_
  refine (tt_gr rfl rfl).trans ?_
  refine (tt_f rfl).trans ?_
  refine (tt_il rfl).trans ?_
  refine (tt_f rfl).trans ?_
  refine tt_c.trans ?_
  refine (tt_f rfl).trans ?_
  refine tt_bi.trans ?_
  refine (tt_f rfl).trans ?_
  refine (tt_il rfl).trans ?_
  refine (tt_f rfl).trans ?_
  refine tt_bi.trans ?_
  refine (tt_f rfl).trans ?_
  refine tt_c.trans ?_
  refine (tt_f rfl).trans ?_
  refine tt_bi.trans ?_
  refine (tt_f rfl).trans ?_
  refine (tt_il rfl).trans ?_
  refine (tt_f rfl).trans ?_
  refine tt_bi.trans ?_
  refine (tt_f rfl).trans ?_
  refine (tt_il rfl).trans ?_
  refine (tt_f rfl).trans ?_
  exact tt_pa rfl rfl hi1
theorem B84_17 {l1 : Int32} {l2 : Int32} {l3 : Int32} {l4 : Int32} (hi1 : zin ((l1 * 4) + l2) 12 = true) (hi2 : zin ((l1 * 4) + l2) 12 = true) : zd S 84 17 [some (.ref 70), some (.int l1), some (.int l2), some (.int l3), some (.int l4)] [] I J k = zd S 84 33 [some (.ref 70), some (.int l1), some (.int l2), some (.int l3), some (.int l4)] [] (u2 I 72 ((l1 * 4) + l2).toNatClampNeg ((I 72 ((l1 * 4) + l2).toNatClampNeg) ||| (1 <<< (l3 &&& 31)))) J k := by
  refine (tt_f rfl).trans ?_
  refine (tt_al rfl).trans ?_
  refine (tt_f rfl).trans ?_
  refine (tt_gr rfl rfl).trans ?_
  refine (tt_f rfl).trans ?_
  refine (tt_il rfl).trans ?_
  refine (tt_f rfl).trans ?_
  refine tt_c.trans ?_
  refine (tt_f rfl).trans ?_
  refine tt_bi.trans ?_
  refine (tt_f rfl).trans ?_
  refine (tt_il rfl).trans ?_
  refine (tt_f rfl).trans ?_
  refine tt_bi.trans ?_
  refine (tt_f rfl).trans ?_
  refine (tt_d2 rfl rfl).trans ?_
  refine (tt_f rfl).trans ?_
  refine (tt_ga rfl rfl hi1).trans ?_
  refine (tt_f rfl).trans ?_
  refine tt_c.trans ?_
  refine (tt_f rfl).trans ?_
  refine (tt_il rfl).trans ?_
  refine (tt_f rfl).trans ?_
  refine tt_bi.trans ?_
  refine (tt_f rfl).trans ?_
  refine tt_bi.trans ?_
  refine (tt_f rfl).trans ?_
  exact tt_pa rfl rfl hi2
theorem B84_33 {l1 : Int32} {l2 : Int32} {l3 : Int32} {l4 : Int32}  : zd S 84 33 [some (.ref 70), some (.int l1), some (.int l2), some (.int l3), some (.int l4)] [] I J k = some (none, mk I J, k) := by
  exact tt_rv rfl
/-! 85: Sheets.standFirst -/
theorem B85_0 {l2 : Int32} {l3 : Int32} {l4 : Int32} {s1 : Nat} {p1 : Nat} (hs1 : s1 < 4) (hp1 : p1 < 2) : zd S 85 0 [some (.ref 70), some (.ref (15 + 12 * s1 + 2 * p1)), some (.int l2), some (.int l3), some (.int l4), none, none, none] [] I J k = zd S 85 11 [some (.ref 70), some (.ref (15 + 12 * s1 + 2 * p1)), some (.int l2), some (.int l3), some (.int l4), some (.int ((1 <<< (l4 &&& 31)) - 1)), some (.int 0), none] [] I J k := by
  refine (tt_f rfl).trans ?_
  refine tt_c.trans ?_
  refine (tt_f rfl).trans ?_
  refine (tt_il rfl).trans ?_
  refine (tt_f rfl).trans ?_
  refine tt_bi.trans ?_
  refine (tt_f rfl).trans ?_
  refine tt_c.trans ?_
  refine (tt_f rfl).trans ?_
  refine tt_bi.trans ?_
  refine (tt_f rfl).trans ?_
  refine (tt_is rfl rfl).trans ?_
  refine (tt_f rfl).trans ?_
  refine tt_c.trans ?_
  refine (tt_f rfl).trans ?_
  refine (tt_is rfl rfl).trans ?_
  rfl
theorem B85_11 {l2 : Int32} {l3 : Int32} {l4 : Int32} {l5 : Int32} {l6 : Int32} {o7 : Option Value} {s1 : Nat} {p1 : Nat} (hs1 : s1 < 4) (hp1 : p1 < 2) : zd S 85 11 [some (.ref 70), some (.ref (15 + 12 * s1 + 2 * p1)), some (.int l2), some (.int l3), some (.int l4), some (.int l5), some (.int l6), o7] [] I J k = if (I 70 1) < (l6 + l4) then zd S 85 80 [some (.ref 70), some (.ref (15 + 12 * s1 + 2 * p1)), some (.int l2), some (.int l3), some (.int l4), some (.int l5), some (.int l6), none] [] I J k else zd S 85 23 [some (.ref 70), some (.ref (15 + 12 * s1 + 2 * p1)), some (.int l2), some (.int l3), some (.int l4), some (.int l5), some (.int l6), none] [] I J k := by
  refine (tt_fk rfl rfl).trans ?_
  refine (tt_il rfl).trans ?_
  refine (tt_f rfl).trans ?_
  refine (tt_il rfl).trans ?_
  refine (tt_f rfl).trans ?_
  refine tt_bi.trans ?_
  refine (tt_f rfl).trans ?_
  refine (tt_al rfl).trans ?_
  refine (tt_f rfl).trans ?_
  refine (tt_gi rfl rfl).trans ?_
  refine (tt_f rfl).trans ?_
  exact tt_f2 (p := fun x y => y < x) inferInstance rfl
theorem B85_23 {l2 : Int32} {l3 : Int32} {l4 : Int32} {l5 : Int32} {l6 : Int32} {s1 : Nat} {p1 : Nat} (hs1 : s1 < 4) (hp1 : p1 < 2) : zd S 85 23 [some (.ref 70), some (.ref (15 + 12 * s1 + 2 * p1)), some (.int l2), some (.int l3), some (.int l4), some (.int l5), some (.int l6), none] [] I J k = zd S 85 26 [some (.ref 70), some (.ref (15 + 12 * s1 + 2 * p1)), some (.int l2), some (.int l3), some (.int l4), some (.int l5), some (.int l6), some (.int 0)] [] I J k := by
  refine (tt_f rfl).trans ?_
  refine tt_c.trans ?_
  refine (tt_f rfl).trans ?_
  refine (tt_is rfl rfl).trans ?_
  rfl
theorem B85_26 {l2 : Int32} {l3 : Int32} {l4 : Int32} {l5 : Int32} {l6 : Int32} {l7 : Int32} {s1 : Nat} {p1 : Nat} (hs1 : s1 < 4) (hp1 : p1 < 2) : zd S 85 26 [some (.ref 70), some (.ref (15 + 12 * s1 + 2 * p1)), some (.int l2), some (.int l3), some (.int l4), some (.int l5), some (.int l6), some (.int l7)] [] I J k = if (I 70 0) < (l7 + l3) then zd S 85 74 [some (.ref 70), some (.ref (15 + 12 * s1 + 2 * p1)), some (.int l2), some (.int l3), some (.int l4), some (.int l5), some (.int l6), some (.int l7)] [] I J k else zd S 85 37 [some (.ref 70), some (.ref (15 + 12 * s1 + 2 * p1)), some (.int l2), some (.int l3), some (.int l4), some (.int l5), some (.int l6), some (.int l7)] [] I J k := by
  refine (tt_fk rfl rfl).trans ?_
  refine (tt_il rfl).trans ?_
  refine (tt_f rfl).trans ?_
  refine (tt_il rfl).trans ?_
  refine (tt_f rfl).trans ?_
  refine tt_bi.trans ?_
  refine (tt_f rfl).trans ?_
  refine (tt_al rfl).trans ?_
  refine (tt_f rfl).trans ?_
  refine (tt_gi rfl rfl).trans ?_
  refine (tt_f rfl).trans ?_
  exact tt_f2 (p := fun x y => y < x) inferInstance rfl
theorem B85_37 {l2 : Int32} {l3 : Int32} {l4 : Int32} {l5 : Int32} {l6 : Int32} {l7 : Int32} {s1 : Nat} {p1 : Nat} {v1 : Int32} {I2 : zI} {J3 : zJ} (hb : Nat.ble k.1 (mBu 85).1 = true ∧ Nat.ble k.2 (mBu 85).2 = true) (hs1 : s1 < 4) (hp1 : p1 < 2) (hq : zq S 87 [.ref 70, .int l2, .int l7, .int l3] I J (some (.int v1)) I2 J3) : zd S 85 37 [some (.ref 70), some (.ref (15 + 12 * s1 + 2 * p1)), some (.int l2), some (.int l3), some (.int l4), some (.int l5), some (.int l6), some (.int l7)] [] I J k = zd S 85 45 [some (.ref 70), some (.ref (15 + 12 * s1 + 2 * p1)), some (.int l2), some (.int l3), some (.int l4), some (.int l5), some (.int l6), some (.int l7)] [.int v1] I2 J3 k := by
  refine (tt_f rfl).trans ?_
  refine (tt_al rfl).trans ?_
  refine (tt_f rfl).trans ?_
  refine (tt_il rfl).trans ?_
  refine (tt_f rfl).trans ?_
  refine (tt_il rfl).trans ?_
  refine (tt_f rfl).trans ?_
  refine (tt_il rfl).trans ?_
  exact tt_cv (As := [.int l2, .int l7, .int l3]) rfl hb.1 hb.2 rfl rfl rfl rfl rfl hq
theorem B85_45 {l2 : Int32} {l3 : Int32} {l4 : Int32} {l5 : Int32} {l6 : Int32} {l7 : Int32} {t0 : Int32} {s1 : Nat} {p1 : Nat} (hs1 : s1 < 4) (hp1 : p1 < 2) : zd S 85 45 [some (.ref 70), some (.ref (15 + 12 * s1 + 2 * p1)), some (.int l2), some (.int l3), some (.int l4), some (.int l5), some (.int l6), some (.int l7)] [.int t0] I J k = if ¬ (t0 &&& (l5 <<< (l6 &&& 31))) = 0 then zd S 85 68 [some (.ref 70), some (.ref (15 + 12 * s1 + 2 * p1)), some (.int l2), some (.int l3), some (.int l4), some (.int l5), some (.int l6), some (.int l7)] [] I J k else zd S 85 54 [some (.ref 70), some (.ref (15 + 12 * s1 + 2 * p1)), some (.int l2), some (.int l3), some (.int l4), some (.int l5), some (.int l6), some (.int l7)] [] I J k := by
  refine (tt_f rfl).trans ?_
  refine (tt_il rfl).trans ?_
  refine (tt_f rfl).trans ?_
  refine (tt_il rfl).trans ?_
  refine (tt_f rfl).trans ?_
  refine tt_bi.trans ?_
  refine (tt_f rfl).trans ?_
  refine tt_bi.trans ?_
  refine (tt_f rfl).trans ?_
  exact tt_f1 (p := fun x => ¬ x = 0) inferInstance rfl
theorem B85_54 {l2 : Int32} {l3 : Int32} {l4 : Int32} {l5 : Int32} {l6 : Int32} {l7 : Int32} {s1 : Nat} {p1 : Nat} {I1 : zI} {J2 : zJ} (hb : Nat.ble k.1 (mBu 85).1 = true ∧ Nat.ble k.2 (mBu 85).2 = true) (hs1 : s1 < 4) (hp1 : p1 < 2) (hq : zq S 48 [.ref (15 + 12 * s1 + 2 * p1), .int l2, .int l7, .int l6, .int l3, .int l4] I J none I1 J2) : zd S 85 54 [some (.ref 70), some (.ref (15 + 12 * s1 + 2 * p1)), some (.int l2), some (.int l3), some (.int l4), some (.int l5), some (.int l6), some (.int l7)] [] I J k = zd S 85 66 [some (.ref 70), some (.ref (15 + 12 * s1 + 2 * p1)), some (.int l2), some (.int l3), some (.int l4), some (.int l5), some (.int l6), some (.int l7)] [] I1 J2 k := by
  refine (tt_f rfl).trans ?_
  refine (tt_al rfl).trans ?_
  refine (tt_f rfl).trans ?_
  refine (tt_il rfl).trans ?_
  refine (tt_f rfl).trans ?_
  refine (tt_il rfl).trans ?_
  refine (tt_f rfl).trans ?_
  refine (tt_il rfl).trans ?_
  refine (tt_f rfl).trans ?_
  refine (tt_il rfl).trans ?_
  refine (tt_f rfl).trans ?_
  refine (tt_il rfl).trans ?_
  exact tt_cv (As := [.int l2, .int l7, .int l6, .int l3, .int l4]) rfl hb.1 hb.2 rfl rfl rfl rfl (shP hs1 hp1) hq
theorem B85_66 {l2 : Int32} {l3 : Int32} {l4 : Int32} {l5 : Int32} {l6 : Int32} {l7 : Int32} {s1 : Nat} {p1 : Nat} (hs1 : s1 < 4) (hp1 : p1 < 2) (hz : zrt 2 (.int 1) = true) : zd S 85 66 [some (.ref 70), some (.ref (15 + 12 * s1 + 2 * p1)), some (.int l2), some (.int l3), some (.int l4), some (.int l5), some (.int l6), some (.int l7)] [] I J k = some ((some (.int 1)), mk I J, k) := by
  refine (tt_f rfl).trans ?_
  refine tt_c.trans ?_
  exact tt_r1 rfl hz
theorem B85_68 {l2 : Int32} {l3 : Int32} {l4 : Int32} {l5 : Int32} {l6 : Int32} {l7 : Int32} {s1 : Nat} {p1 : Nat} (hs1 : s1 < 4) (hp1 : p1 < 2) : zd S 85 68 [some (.ref 70), some (.ref (15 + 12 * s1 + 2 * p1)), some (.int l2), some (.int l3), some (.int l4), some (.int l5), some (.int l6), some (.int l7)] [] I J k = zd S 85 26 [some (.ref 70), some (.ref (15 + 12 * s1 + 2 * p1)), some (.int l2), some (.int l3), some (.int l4), some (.int l5), some (.int l6), some (.int (l7 + 1))] [] I J k := by
  refine (tt_f rfl).trans ?_
  refine (tt_in rfl rfl).trans ?_
  refine (tt_f rfl).trans ?_
  refine tt_go.trans ?_
  rfl
theorem B85_74 {l2 : Int32} {l3 : Int32} {l4 : Int32} {l5 : Int32} {l6 : Int32} {l7 : Int32} {s1 : Nat} {p1 : Nat} (hs1 : s1 < 4) (hp1 : p1 < 2) : zd S 85 74 [some (.ref 70), some (.ref (15 + 12 * s1 + 2 * p1)), some (.int l2), some (.int l3), some (.int l4), some (.int l5), some (.int l6), some (.int l7)] [] I J k = zd S 85 11 [some (.ref 70), some (.ref (15 + 12 * s1 + 2 * p1)), some (.int l2), some (.int l3), some (.int l4), some (.int l5), some (.int (l6 + 1)), some (.int l7)] [] I J k := by
  refine (tt_f rfl).trans ?_
  refine (tt_in rfl rfl).trans ?_
  refine (tt_f rfl).trans ?_
  refine tt_go.trans ?_
  rfl
theorem B85_80 {l2 : Int32} {l3 : Int32} {l4 : Int32} {l5 : Int32} {l6 : Int32} {s1 : Nat} {p1 : Nat} (hs1 : s1 < 4) (hp1 : p1 < 2) (hz : zrt 2 (.int 0) = true) : zd S 85 80 [some (.ref 70), some (.ref (15 + 12 * s1 + 2 * p1)), some (.int l2), some (.int l3), some (.int l4), some (.int l5), some (.int l6), none] [] I J k = some ((some (.int 0)), mk I J, k) := by
  refine (tt_f rfl).trans ?_
  refine tt_c.trans ?_
  exact tt_r1 rfl hz
/-! 86: Sheets.freeHeight -/
theorem B86_0 {l1 : Int32} {l2 : Int32} {l3 : Int32} {l4 : Int32} {v1 : Int32} {I2 : zI} {J3 : zJ} (hb : Nat.ble k.1 (mBu 86).1 = true ∧ Nat.ble k.2 (mBu 86).2 = true) (hq : zq S 87 [.ref 70, .int l1, .int l2, .int l4] I J (some (.int v1)) I2 J3) : zd S 86 0 [some (.ref 70), some (.int l1), some (.int l2), some (.int l3), some (.int l4), none, none] [] I J k = zd S 86 8 [some (.ref 70), some (.int l1), some (.int l2), some (.int l3), some (.int l4), none, none] [.int v1] I2 J3 k := by
  refine (tt_f rfl).trans ?_
  refine (tt_al rfl).trans ?_
  refine (tt_f rfl).trans ?_
  refine (tt_il rfl).trans ?_
  refine (tt_f rfl).trans ?_
  refine (tt_il rfl).trans ?_
  refine (tt_f rfl).trans ?_
  refine (tt_il rfl).trans ?_
  exact tt_cv (As := [.int l1, .int l2, .int l4]) rfl hb.1 hb.2 rfl rfl rfl rfl rfl hq
theorem B86_8 {l1 : Int32} {l2 : Int32} {l3 : Int32} {l4 : Int32} {t0 : Int32}  : zd S 86 8 [some (.ref 70), some (.int l1), some (.int l2), some (.int l3), some (.int l4), none, none] [.int t0] I J k = zd S 86 13 [some (.ref 70), some (.int l1), some (.int l2), some (.int l3), some (.int l4), some (.int t0), some (.int 0)] [] I J k := by
  refine (tt_f rfl).trans ?_
  refine (tt_is rfl rfl).trans ?_
  refine (tt_f rfl).trans ?_
  refine tt_c.trans ?_
  refine (tt_f rfl).trans ?_
  refine (tt_is rfl rfl).trans ?_
  rfl
theorem B86_13 {o1 : Option Value} {o2 : Option Value} {l3 : Int32} {o4 : Option Value} {l5 : Int32} {l6 : Int32}  : zd S 86 13 [some (.ref 70), o1, o2, some (.int l3), o4, some (.int l5), some (.int l6)] [] I J k = if (I 70 1) ≤ (l3 + l6) then zd S 86 43 [some (.ref 70), none, none, some (.int l3), none, some (.int l5), some (.int l6)] [] I J k else zd S 86 24 [some (.ref 70), none, none, some (.int l3), none, some (.int l5), some (.int l6)] [] I J k := by
  refine (tt_fk rfl rfl).trans ?_
  refine (tt_il rfl).trans ?_
  refine (tt_f rfl).trans ?_
  refine (tt_il rfl).trans ?_
  refine (tt_f rfl).trans ?_
  refine tt_bi.trans ?_
  refine (tt_f rfl).trans ?_
  refine (tt_al rfl).trans ?_
  refine (tt_f rfl).trans ?_
  refine (tt_gi rfl rfl).trans ?_
  refine (tt_f rfl).trans ?_
  exact tt_f2 (p := fun x y => y ≤ x) inferInstance rfl
theorem B86_24 {l3 : Int32} {l5 : Int32} {l6 : Int32} {v1 : Int32} {I2 : zI} {J3 : zJ} (hb : Nat.ble k.1 (mBu 86).1 = true ∧ Nat.ble k.2 (mBu 86).2 = true) (hq : zq S 22 [.long (l5).toInt64, .int (l3 + l6)] I J (some (.int v1)) I2 J3) : zd S 86 24 [some (.ref 70), none, none, some (.int l3), none, some (.int l5), some (.int l6)] [] I J k = zd S 86 34 [some (.ref 70), none, none, some (.int l3), none, some (.int l5), some (.int l6)] [.int v1] I2 J3 k := by
  refine (tt_f rfl).trans ?_
  refine (tt_il rfl).trans ?_
  refine (tt_f rfl).trans ?_
  refine tt_i2l.trans ?_
  refine (tt_f rfl).trans ?_
  refine (tt_il rfl).trans ?_
  refine (tt_f rfl).trans ?_
  refine (tt_il rfl).trans ?_
  refine (tt_f rfl).trans ?_
  refine tt_bi.trans ?_
  exact tt_cs (vs := [.long (l5).toInt64, .int (l3 + l6)]) rfl hb.1 hb.2 rfl rfl rfl rfl hq
theorem B86_34 {l3 : Int32} {l5 : Int32} {l6 : Int32} {t0 : Int32}  : zd S 86 34 [some (.ref 70), none, none, some (.int l3), none, some (.int l5), some (.int l6)] [.int t0] I J k = if ¬ t0 = 0 then zd S 86 43 [some (.ref 70), none, none, some (.int l3), none, some (.int l5), some (.int l6)] [] I J k else zd S 86 37 [some (.ref 70), none, none, some (.int l3), none, some (.int l5), some (.int l6)] [] I J k := by
  refine (tt_f rfl).trans ?_
  exact tt_f1 (p := fun x => ¬ x = 0) inferInstance rfl
theorem B86_37 {l3 : Int32} {l5 : Int32} {l6 : Int32}  : zd S 86 37 [some (.ref 70), none, none, some (.int l3), none, some (.int l5), some (.int l6)] [] I J k = zd S 86 13 [some (.ref 70), none, none, some (.int l3), none, some (.int l5), some (.int (l6 + 1))] [] I J k := by
  refine (tt_f rfl).trans ?_
  refine (tt_in rfl rfl).trans ?_
  refine (tt_f rfl).trans ?_
  refine tt_go.trans ?_
  rfl
theorem B86_43 {l3 : Int32} {l5 : Int32} {l6 : Int32}  : zd S 86 43 [some (.ref 70), none, none, some (.int l3), none, some (.int l5), some (.int l6)] [] I J k = some ((some (.int l6)), mk I J, k) := by
  refine (tt_fk rfl rfl).trans ?_
  refine (tt_il rfl).trans ?_
  exact tt_r1 rfl rfl
/-! 87: Sheets.takenIn -/
theorem B87_0 {l1 : Int32} {l2 : Int32} {l3 : Int32}  : zd S 87 0 [some (.ref 70), some (.int l1), some (.int l2), some (.int l3), none, none] [] I J k = zd S 87 6 [some (.ref 70), some (.int l1), some (.int l2), some (.int l3), some (.int 0), some (.int l2)] [] I J k := by
  refine (tt_f rfl).trans ?_
  refine tt_c.trans ?_
  refine (tt_f rfl).trans ?_
  refine (tt_is rfl rfl).trans ?_
  refine (tt_f rfl).trans ?_
  refine (tt_il rfl).trans ?_
  refine (tt_f rfl).trans ?_
  refine (tt_is rfl rfl).trans ?_
  rfl
theorem B87_6 {l1 : Int32} {l2 : Int32} {l3 : Int32} {l4 : Int32} {l5 : Int32}  : zd S 87 6 [some (.ref 70), some (.int l1), some (.int l2), some (.int l3), some (.int l4), some (.int l5)] [] I J k = if (l2 + l3) ≤ l5 then zd S 87 36 [some (.ref 70), some (.int l1), some (.int l2), some (.int l3), some (.int l4), some (.int l5)] [] I J k else zd S 87 14 [some (.ref 70), some (.int l1), some (.int l2), some (.int l3), some (.int l4), some (.int l5)] [] I J k := by
  refine (tt_fk rfl rfl).trans ?_
  refine (tt_il rfl).trans ?_
  refine (tt_f rfl).trans ?_
  refine (tt_il rfl).trans ?_
  refine (tt_f rfl).trans ?_
  refine (tt_il rfl).trans ?_
  refine (tt_f rfl).trans ?_
  refine tt_bi.trans ?_
  refine (tt_f rfl).trans ?_
  exact tt_f2 (p := fun x y => y ≤ x) inferInstance rfl
theorem B87_14 {l1 : Int32} {l2 : Int32} {l3 : Int32} {l4 : Int32} {l5 : Int32} (hi1 : zin ((l1 * 4) + l5) 12 = true) : zd S 87 14 [some (.ref 70), some (.int l1), some (.int l2), some (.int l3), some (.int l4), some (.int l5)] [] I J k = zd S 87 6 [some (.ref 70), some (.int l1), some (.int l2), some (.int l3), some (.int (l4 ||| (I 72 ((l1 * 4) + l5).toNatClampNeg))), some (.int (l5 + 1))] [] I J k := by
  refine (tt_f rfl).trans ?_
  refine (tt_il rfl).trans ?_
  refine (tt_f rfl).trans ?_
  refine (tt_al rfl).trans ?_
  refine (tt_f rfl).trans ?_
  refine (tt_gr rfl rfl).trans ?_
  refine (tt_f rfl).trans ?_
  refine (tt_il rfl).trans ?_
  refine (tt_f rfl).trans ?_
  refine tt_c.trans ?_
  refine (tt_f rfl).trans ?_
  refine tt_bi.trans ?_
  refine (tt_f rfl).trans ?_
  refine (tt_il rfl).trans ?_
  refine (tt_f rfl).trans ?_
  refine tt_bi.trans ?_
  refine (tt_f rfl).trans ?_
  refine (tt_ga rfl rfl hi1).trans ?_
  refine (tt_f rfl).trans ?_
  refine tt_bi.trans ?_
  refine (tt_f rfl).trans ?_
  refine (tt_is rfl rfl).trans ?_
  refine (tt_f rfl).trans ?_
  refine (tt_in rfl rfl).trans ?_
  refine (tt_f rfl).trans ?_
  refine tt_go.trans ?_
  rfl
theorem B87_36 {l1 : Int32} {l2 : Int32} {l3 : Int32} {l4 : Int32} {l5 : Int32}  : zd S 87 36 [some (.ref 70), some (.int l1), some (.int l2), some (.int l3), some (.int l4), some (.int l5)] [] I J k = some ((some (.int l4)), mk I J, k) := by
  refine (tt_f rfl).trans ?_
  refine (tt_il rfl).trans ?_
  exact tt_r1 rfl rfl
/-! 89: Story.forgetText -/
theorem B89_0 {s0 : Nat} (hs0 : s0 < 4) : zd S 89 0 [some (.ref (7 + 12 * s0))] [] I J k = zd S 89 5 [some (.ref (7 + 12 * s0))] [] (u2 I (7 + 12 * s0) 11 0) J k := by
  refine (tt_f rfl).trans ?_
  refine (tt_al rfl).trans ?_
  refine (tt_f rfl).trans ?_
  refine tt_c.trans ?_
  refine (tt_f rfl).trans ?_
  exact tt_pi (shS hs0) rfl rfl
theorem B89_5 {s0 : Nat} (hs0 : s0 < 4) : zd S 89 5 [some (.ref (7 + 12 * s0))] [] I J k = zd S 89 10 [some (.ref (7 + 12 * s0))] [] (u2 I (7 + 12 * s0) 12 0) J k := by
  refine (tt_f rfl).trans ?_
  refine (tt_al rfl).trans ?_
  refine (tt_f rfl).trans ?_
  refine tt_c.trans ?_
  refine (tt_f rfl).trans ?_
  exact tt_pi (shS hs0) rfl rfl
theorem B89_10 {s0 : Nat} (hs0 : s0 < 4) : zd S 89 10 [some (.ref (7 + 12 * s0))] [] I J k = zd S 89 15 [some (.ref (7 + 12 * s0))] [] (u2 I (7 + 12 * s0) 13 0) J k := by
  refine (tt_f rfl).trans ?_
  refine (tt_al rfl).trans ?_
  refine (tt_f rfl).trans ?_
  refine tt_c.trans ?_
  refine (tt_f rfl).trans ?_
  exact tt_pi (shS hs0) rfl rfl
theorem B89_15 {s0 : Nat} (hs0 : s0 < 4) : zd S 89 15 [some (.ref (7 + 12 * s0))] [] I J k = some (none, mk I J, k) := by
  exact tt_rv rfl
/-! 90: Story.forgetPlan -/
theorem B90_0 {s0 : Nat} (hs0 : s0 < 4) : zd S 90 0 [some (.ref (7 + 12 * s0))] [] I J k = zd S 90 5 [some (.ref (7 + 12 * s0))] [] (u2 I (7 + 12 * s0) 14 0) J k := by
  refine (tt_f rfl).trans ?_
  refine (tt_al rfl).trans ?_
  refine (tt_f rfl).trans ?_
  refine tt_c.trans ?_
  refine (tt_f rfl).trans ?_
  exact tt_pi (shS hs0) rfl rfl
theorem B90_5 {s0 : Nat} (hs0 : s0 < 4) : zd S 90 5 [some (.ref (7 + 12 * s0))] [] I J k = zd S 90 10 [some (.ref (7 + 12 * s0))] [] (u2 I (7 + 12 * s0) 15 0) J k := by
  refine (tt_f rfl).trans ?_
  refine (tt_al rfl).trans ?_
  refine (tt_f rfl).trans ?_
  refine tt_c.trans ?_
  refine (tt_f rfl).trans ?_
  exact tt_pi (shS hs0) rfl rfl
theorem B90_10 {s0 : Nat} (hs0 : s0 < 4) : zd S 90 10 [some (.ref (7 + 12 * s0))] [] I J k = zd S 90 15 [some (.ref (7 + 12 * s0))] [] (u2 I (7 + 12 * s0) 16 0) J k := by
  refine (tt_f rfl).trans ?_
  refine (tt_al rfl).trans ?_
  refine (tt_f rfl).trans ?_
  refine tt_c.trans ?_
  refine (tt_f rfl).trans ?_
  exact tt_pi (shS hs0) rfl rfl
theorem B90_15 {s0 : Nat} (hs0 : s0 < 4) : zd S 90 15 [some (.ref (7 + 12 * s0))] [] I J k = zd S 90 20 [some (.ref (7 + 12 * s0))] [] I (v2 J (7 + 12 * s0) 17 0) k := by
  refine (tt_f rfl).trans ?_
  refine (tt_al rfl).trans ?_
  refine (tt_f rfl).trans ?_
  refine tt_c.trans ?_
  refine (tt_f rfl).trans ?_
  exact tt_pj (shS hs0) rfl rfl
theorem B90_20 {s0 : Nat} (hs0 : s0 < 4) : zd S 90 20 [some (.ref (7 + 12 * s0))] [] I J k = some (none, mk I J, k) := by
  exact tt_rv rfl
/-! 91: Story.addLine -/
theorem B91_0 {l1 : Int32} {l2 : Int32} {l3 : Int32} {s0 : Nat} (hs0 : s0 < 4) : zd S 91 0 [some (.ref (7 + 12 * s0)), some (.int l1), some (.int l2), some (.int l3)] [] I J k = if 40 ≤ (I (7 + 12 * s0) 15) then zd S 91 39 [some (.ref (7 + 12 * s0)), some (.int l1), some (.int l2), some (.int l3)] [] I J k else zd S 91 9 [some (.ref (7 + 12 * s0)), some (.int l1), some (.int l2), some (.int l3)] [] I J k := by
  refine (tt_f rfl).trans ?_
  refine (tt_al rfl).trans ?_
  refine (tt_f rfl).trans ?_
  refine (tt_gi (shS hs0) rfl).trans ?_
  refine (tt_f rfl).trans ?_
  refine tt_c.trans ?_
  refine (tt_f rfl).trans ?_
  exact tt_f2 (p := fun x y => y ≤ x) inferInstance rfl
theorem B91_9 {l1 : Int32} {l2 : Int32} {l3 : Int32} {s0 : Nat} (hs0 : s0 < 4) (hi1 : zin (I (7 + 12 * s0) 15) 40 = true) : zd S 91 9 [some (.ref (7 + 12 * s0)), some (.int l1), some (.int l2), some (.int l3)] [] I J k = zd S 91 19 [some (.ref (7 + 12 * s0)), some (.int l1), some (.int l2), some (.int l3)] [] (u2 I (11 + 12 * s0) (I (7 + 12 * s0) 15).toNatClampNeg l1) J k := by
  refine (tt_f rfl).trans ?_
  refine (tt_al rfl).trans ?_
  refine (tt_f rfl).trans ?_
  refine (tt_gr (shS hs0) rfl).trans ?_
  refine (tt_f rfl).trans ?_
  refine (tt_al rfl).trans ?_
  refine (tt_f rfl).trans ?_
  refine (tt_gi (shS hs0) rfl).trans ?_
  refine (tt_f rfl).trans ?_
  refine (tt_il rfl).trans ?_
  refine (tt_f rfl).trans ?_
  exact tt_pa (shS4 hs0) rfl hi1
theorem B91_19 {l1 : Int32} {l2 : Int32} {l3 : Int32} {s0 : Nat} (hs0 : s0 < 4) (hi1 : zin (I (7 + 12 * s0) 15) 40 = true) : zd S 91 19 [some (.ref (7 + 12 * s0)), some (.int l1), some (.int l2), some (.int l3)] [] I J k = zd S 91 29 [some (.ref (7 + 12 * s0)), some (.int l1), some (.int l2), some (.int l3)] [] (u2 I (12 + 12 * s0) (I (7 + 12 * s0) 15).toNatClampNeg l2) J k := by
  refine (tt_f rfl).trans ?_
  refine (tt_al rfl).trans ?_
  refine (tt_f rfl).trans ?_
  refine (tt_gr (shS hs0) rfl).trans ?_
  refine (tt_f rfl).trans ?_
  refine (tt_al rfl).trans ?_
  refine (tt_f rfl).trans ?_
  refine (tt_gi (shS hs0) rfl).trans ?_
  refine (tt_f rfl).trans ?_
  refine (tt_il rfl).trans ?_
  refine (tt_f rfl).trans ?_
  exact tt_pa (shS5 hs0) rfl hi1
theorem B91_29 {l1 : Int32} {l2 : Int32} {l3 : Int32} {s0 : Nat} (hs0 : s0 < 4) (hi1 : zin (I (7 + 12 * s0) 15) 40 = true) : zd S 91 29 [some (.ref (7 + 12 * s0)), some (.int l1), some (.int l2), some (.int l3)] [] I J k = zd S 91 39 [some (.ref (7 + 12 * s0)), some (.int l1), some (.int l2), some (.int l3)] [] (u2 I (13 + 12 * s0) (I (7 + 12 * s0) 15).toNatClampNeg l3) J k := by
  refine (tt_f rfl).trans ?_
  refine (tt_al rfl).trans ?_
  refine (tt_f rfl).trans ?_
  refine (tt_gr (shS hs0) rfl).trans ?_
  refine (tt_f rfl).trans ?_
  refine (tt_al rfl).trans ?_
  refine (tt_f rfl).trans ?_
  refine (tt_gi (shS hs0) rfl).trans ?_
  refine (tt_f rfl).trans ?_
  refine (tt_il rfl).trans ?_
  refine (tt_f rfl).trans ?_
  exact tt_pa (shS6 hs0) rfl hi1
theorem B91_39 {l1 : Int32} {l2 : Int32} {l3 : Int32} {s0 : Nat} (hs0 : s0 < 4) : zd S 91 39 [some (.ref (7 + 12 * s0)), some (.int l1), some (.int l2), some (.int l3)] [] I J k = zd S 91 49 [some (.ref (7 + 12 * s0)), none, none, none] [] (u2 I (7 + 12 * s0) 15 ((I (7 + 12 * s0) 15) + 1)) J k := by
  refine (tt_fk rfl rfl).trans ?_
  refine (tt_al rfl).trans ?_
  refine (tt_f rfl).trans ?_
  refine (tt_dup rfl).trans ?_
  refine (tt_f rfl).trans ?_
  refine (tt_gi (shS hs0) rfl).trans ?_
  refine (tt_f rfl).trans ?_
  refine tt_c.trans ?_
  refine (tt_f rfl).trans ?_
  refine tt_bi.trans ?_
  refine (tt_f rfl).trans ?_
  exact tt_pi (shS hs0) rfl rfl
theorem B91_49 {s0 : Nat} (hs0 : s0 < 4) : zd S 91 49 [some (.ref (7 + 12 * s0)), none, none, none] [] I J k = some (none, mk I J, k) := by
  exact tt_rv rfl
/-! 92: Story.markBadBreaks -/
theorem B92_0 {l1 : Int32} {s0 : Nat} (hs0 : s0 < 4) : zd S 92 0 [some (.ref (7 + 12 * s0)), some (.int l1), none] [] I J k = if ((I (7 + 12 * s0) 15) - 1) ≤ l1 then zd S 92 36 [some (.ref (7 + 12 * s0)), some (.int l1), some (.int ((I (7 + 12 * s0) 15) - 1))] [] I J k else zd S 92 12 [some (.ref (7 + 12 * s0)), some (.int l1), some (.int ((I (7 + 12 * s0) 15) - 1))] [] I J k := by
  refine (tt_f rfl).trans ?_
  refine (tt_al rfl).trans ?_
  refine (tt_f rfl).trans ?_
  refine (tt_gi (shS hs0) rfl).trans ?_
  refine (tt_f rfl).trans ?_
  refine tt_c.trans ?_
  refine (tt_f rfl).trans ?_
  refine tt_bi.trans ?_
  refine (tt_f rfl).trans ?_
  refine (tt_is rfl rfl).trans ?_
  refine (tt_f rfl).trans ?_
  refine (tt_il rfl).trans ?_
  refine (tt_f rfl).trans ?_
  refine (tt_il rfl).trans ?_
  refine (tt_f rfl).trans ?_
  exact tt_f2 (p := fun x y => x ≤ y) inferInstance rfl
theorem B92_12 {l1 : Int32} {l2 : Int32} {s0 : Nat} (hs0 : s0 < 4) : zd S 92 12 [some (.ref (7 + 12 * s0)), some (.int l1), some (.int l2)] [] I J k = if 40 ≤ l2 then zd S 92 36 [some (.ref (7 + 12 * s0)), some (.int l1), some (.int l2)] [] I J k else zd S 92 18 [some (.ref (7 + 12 * s0)), some (.int l1), some (.int l2)] [] I J k := by
  refine (tt_f rfl).trans ?_
  refine (tt_il rfl).trans ?_
  refine (tt_f rfl).trans ?_
  refine tt_c.trans ?_
  refine (tt_f rfl).trans ?_
  exact tt_f2 (p := fun x y => y ≤ x) inferInstance rfl
theorem B92_18 {l1 : Int32} {l2 : Int32} {s0 : Nat} (hs0 : s0 < 4) : zd S 92 18 [some (.ref (7 + 12 * s0)), some (.int l1), some (.int l2)] [] I J k = zd S 92 36 [some (.ref (7 + 12 * s0)), some (.int l1), some (.int l2)] [] I (v2 J (7 + 12 * s0) 17 ((J (7 + 12 * s0) 17) ||| ((1 <<< (((l1 + 1) : Int32).toInt64 &&& 63)) ||| (1 <<< (l2.toInt64 &&& 63))))) k := by
  refine (tt_f rfl).trans ?_
  refine (tt_al rfl).trans ?_
  refine (tt_f rfl).trans ?_
  refine (tt_dup rfl).trans ?_
  refine (tt_f rfl).trans ?_
  refine (tt_gj (shS hs0) rfl).trans ?_
  refine (tt_f rfl).trans ?_
  refine tt_c.trans ?_
  refine (tt_f rfl).trans ?_
  refine (tt_il rfl).trans ?_
  refine (tt_f rfl).trans ?_
  refine tt_c.trans ?_
  refine (tt_f rfl).trans ?_
  refine tt_bi.trans ?_
  refine (tt_f rfl).trans ?_
  refine tt_sl.trans ?_
  refine (tt_f rfl).trans ?_
  refine tt_c.trans ?_
  refine (tt_f rfl).trans ?_
  refine (tt_il rfl).trans ?_
  refine (tt_f rfl).trans ?_
  refine tt_sl.trans ?_
  refine (tt_f rfl).trans ?_
  refine tt_bl.trans ?_
  refine (tt_f rfl).trans ?_
  refine tt_bl.trans ?_
  refine (tt_f rfl).trans ?_
  exact tt_pj (shS hs0) rfl rfl
theorem B92_36 {l1 : Int32} {l2 : Int32} {s0 : Nat} (hs0 : s0 < 4) : zd S 92 36 [some (.ref (7 + 12 * s0)), some (.int l1), some (.int l2)] [] I J k = some (none, mk I J, k) := by
  exact tt_rv rfl
/-! 93: Story.goodEnds -/
theorem B93_0 {s0 : Nat} (hs0 : s0 < 4) : zd S 93 0 [some (.ref (7 + 12 * s0))] [] I J k = some ((some (.long (((1 <<< ((((I (7 + 12 * s0) 15) + 1) : Int32).toInt64 &&& 63)) - 1) &&& ((J (7 + 12 * s0) 17) ^^^ (-1))))), mk I J, k) := by
  refine (tt_f rfl).trans ?_
  refine tt_c.trans ?_
  refine (tt_f rfl).trans ?_
  refine (tt_al rfl).trans ?_
  refine (tt_f rfl).trans ?_
  refine (tt_gi (shS hs0) rfl).trans ?_
  refine (tt_f rfl).trans ?_
  refine tt_c.trans ?_
  refine (tt_f rfl).trans ?_
  refine tt_bi.trans ?_
  refine (tt_f rfl).trans ?_
  refine tt_sl.trans ?_
  refine (tt_f rfl).trans ?_
  refine tt_c.trans ?_
  refine (tt_f rfl).trans ?_
  refine tt_bl.trans ?_
  refine (tt_f rfl).trans ?_
  refine (tt_al rfl).trans ?_
  refine (tt_f rfl).trans ?_
  refine (tt_gj (shS hs0) rfl).trans ?_
  refine (tt_f rfl).trans ?_
  refine tt_c.trans ?_
  refine (tt_f rfl).trans ?_
  refine tt_bl.trans ?_
  refine (tt_f rfl).trans ?_
  refine tt_bl.trans ?_
  exact tt_r1 rfl rfl
/-! 95: EditionGridModel.isLetter -/
theorem B95_0 {l0 : Int32}  : zd S 95 0 [some (.int l0)] [] I J k = if l0 < 97 then zd S 95 16 [some (.int l0)] [] I J k else zd S 95 6 [some (.int l0)] [] I J k := by
  refine (tt_f rfl).trans ?_
  refine (tt_il rfl).trans ?_
  refine (tt_f rfl).trans ?_
  refine tt_c.trans ?_
  refine (tt_f rfl).trans ?_
  exact tt_f2 (p := fun x y => x < y) inferInstance rfl
theorem B95_6 {l0 : Int32}  : zd S 95 6 [some (.int l0)] [] I J k = if 122 < l0 then zd S 95 16 [some (.int l0)] [] I J k else zd S 95 12 [some (.int l0)] [] I J k := by
  refine (tt_f rfl).trans ?_
  refine (tt_il rfl).trans ?_
  refine (tt_f rfl).trans ?_
  refine tt_c.trans ?_
  refine (tt_f rfl).trans ?_
  exact tt_f2 (p := fun x y => y < x) inferInstance rfl
theorem B95_12 {l0 : Int32} (hz : zrt 2 (.int 1) = true) : zd S 95 12 [some (.int l0)] [] I J k = some ((some (.int 1)), mk I J, k) := by
  refine (tt_f rfl).trans ?_
  refine tt_c.trans ?_
  refine (tt_f rfl).trans ?_
  refine tt_go.trans ?_
  exact tt_r1 rfl hz
theorem B95_16 {l0 : Int32} (hz : zrt 2 (.int 0) = true) : zd S 95 16 [some (.int l0)] [] I J k = some ((some (.int 0)), mk I J, k) := by
  refine (tt_fk rfl rfl).trans ?_
  refine tt_c.trans ?_
  exact tt_r1 rfl hz
/-! 96: EditionGridModel.metric -/
theorem B96_0 {l1 : Int32} {l2 : Int32} {v1 : Int32} {I2 : zI} {J3 : zJ} (hb : Nat.ble k.1 (mBu 96).1 = true ∧ Nat.ble k.2 (mBu 96).2 = true) (hq : zq S 95 [.int l1] I J (some (.int v1)) I2 J3) : zd S 96 0 [some (.ref 76), some (.int l1), some (.int l2)] [] I J k = zd S 96 4 [some (.ref 76), some (.int l1), some (.int l2)] [.int v1] I2 J3 k := by
  refine (tt_f rfl).trans ?_
  refine (tt_il rfl).trans ?_
  exact tt_cs (vs := [.int l1]) rfl hb.1 hb.2 rfl rfl rfl rfl hq
theorem B96_4 {l1 : Int32} {l2 : Int32} {t0 : Int32}  : zd S 96 4 [some (.ref 76), some (.int l1), some (.int l2)] [.int t0] I J k = if t0 = 0 then zd S 96 18 [some (.ref 76), some (.int l1), some (.int l2)] [] I J k else zd S 96 7 [some (.ref 76), some (.int l1), some (.int l2)] [] I J k := by
  refine (tt_f rfl).trans ?_
  exact tt_f1 (p := fun x => x = 0) inferInstance rfl
theorem B96_7 {l1 : Int32} {l2 : Int32}  : zd S 96 7 [some (.ref 76), some (.int l1), some (.int l2)] [] I J k = if l2 < 1 then zd S 96 18 [some (.ref 76), some (.int l1), some (.int l2)] [] I J k else zd S 96 12 [some (.ref 76), some (.int l1), some (.int l2)] [] I J k := by
  refine (tt_f rfl).trans ?_
  refine (tt_il rfl).trans ?_
  refine (tt_f rfl).trans ?_
  refine tt_c.trans ?_
  refine (tt_f rfl).trans ?_
  exact tt_f2 (p := fun x y => x < y) inferInstance rfl
theorem B96_12 {l1 : Int32} {l2 : Int32}  : zd S 96 12 [some (.ref 76), some (.int l1), some (.int l2)] [] I J k = if l2 ≤ 9 then zd S 96 20 [some (.ref 76), some (.int l1), some (.int l2)] [] I J k else zd S 96 18 [some (.ref 76), some (.int l1), some (.int l2)] [] I J k := by
  refine (tt_f rfl).trans ?_
  refine (tt_il rfl).trans ?_
  refine (tt_f rfl).trans ?_
  refine tt_c.trans ?_
  refine (tt_f rfl).trans ?_
  exact tt_f2 (p := fun x y => x ≤ y) inferInstance rfl
theorem B96_18 {l1 : Int32} {l2 : Int32} (hz : zrt 2 (.int 0) = true) : zd S 96 18 [some (.ref 76), some (.int l1), some (.int l2)] [] I J k = some ((some (.int 0)), mk I J, k) := by
  refine (tt_fk rfl rfl).trans ?_
  refine tt_c.trans ?_
  exact tt_r1 rfl hz
theorem B96_20 {l1 : Int32} {l2 : Int32} (hi1 : zin (l1 - 97) 26 = true) : zd S 96 20 [some (.ref 76), some (.int l1), some (.int l2)] [] I J k = zd S 96 30 [some (.ref 76), some (.int l1), some (.int l2)] [] (u2 I 77 (l1 - 97).toNatClampNeg l2) J k := by
  refine (tt_f rfl).trans ?_
  refine (tt_al rfl).trans ?_
  refine (tt_f rfl).trans ?_
  refine (tt_gr rfl rfl).trans ?_
  refine (tt_f rfl).trans ?_
  refine (tt_il rfl).trans ?_
  refine (tt_f rfl).trans ?_
  refine tt_c.trans ?_
  refine (tt_f rfl).trans ?_
  refine tt_bi.trans ?_
  refine (tt_f rfl).trans ?_
  refine (tt_il rfl).trans ?_
  refine (tt_f rfl).trans ?_
  exact tt_pa rfl rfl hi1
theorem B96_30 {l1 : Int32} {l2 : Int32} (hz : zrt 2 (.int 1) = true) : zd S 96 30 [some (.ref 76), some (.int l1), some (.int l2)] [] I J k = some ((some (.int 1)), mk I J, k) := by
  refine (tt_f rfl).trans ?_
  refine tt_c.trans ?_
  exact tt_r1 rfl hz
/-! 97: EditionGridModel.byteOf -/
theorem B97_0 {l0 : Int64} {l2 : Int32} {l3 : Int32}  : zd S 97 0 [some (.long l0), none, some (.int l2), some (.int l3)] [] I J k = some ((some (.int (((l0 >>> (((8 * ((l2 - 1) - l3)) : Int32).toInt64 &&& 63)) &&& 255)).toInt32)), mk I J, k) := by
  refine (tt_f rfl).trans ?_
  refine (tt_ll rfl).trans ?_
  refine (tt_f rfl).trans ?_
  refine tt_c.trans ?_
  refine (tt_f rfl).trans ?_
  refine (tt_il rfl).trans ?_
  refine (tt_f rfl).trans ?_
  refine tt_c.trans ?_
  refine (tt_f rfl).trans ?_
  refine tt_bi.trans ?_
  refine (tt_f rfl).trans ?_
  refine (tt_il rfl).trans ?_
  refine (tt_f rfl).trans ?_
  refine tt_bi.trans ?_
  refine (tt_f rfl).trans ?_
  refine tt_bi.trans ?_
  refine (tt_f rfl).trans ?_
  refine tt_sl.trans ?_
  refine (tt_f rfl).trans ?_
  refine tt_c.trans ?_
  refine (tt_f rfl).trans ?_
  refine tt_bl.trans ?_
  refine (tt_f rfl).trans ?_
  refine tt_l2i.trans ?_
  exact tt_r1 rfl rfl
/-! 98: EditionGridModel.isSigns -/
theorem B98_0 {l0 : Int64} {l2 : Int32}  : zd S 98 0 [some (.long l0), none, some (.int l2), none, none, none, none] [] I J k = zd S 98 8 [some (.long l0), none, some (.int l2), some (.int 1), some (.int 0), some (.int 0), none] [] I J k := by
  refine (tt_f rfl).trans ?_
  refine tt_c.trans ?_
  refine (tt_f rfl).trans ?_
  refine (tt_is rfl rfl).trans ?_
  refine (tt_f rfl).trans ?_
  refine tt_c.trans ?_
  refine (tt_f rfl).trans ?_
  refine (tt_is rfl rfl).trans ?_
  refine (tt_f rfl).trans ?_
  refine tt_c.trans ?_
  refine (tt_f rfl).trans ?_
  refine (tt_is rfl rfl).trans ?_
  rfl
theorem B98_8 {l0 : Int64} {l2 : Int32} {l3 : Int32} {l4 : Int32} {l5 : Int32}  : zd S 98 8 [some (.long l0), none, some (.int l2), some (.int l3), some (.int l4), some (.int l5), none] [] I J k = if l2 ≤ l5 then zd S 98 86 [some (.long l0), none, some (.int l2), some (.int l3), some (.int l4), some (.int l5), none] [] I J k else zd S 98 14 [some (.long l0), none, some (.int l2), some (.int l3), some (.int l4), some (.int l5), none] [] I J k := by
  refine (tt_fk rfl rfl).trans ?_
  refine (tt_il rfl).trans ?_
  refine (tt_f rfl).trans ?_
  refine (tt_il rfl).trans ?_
  refine (tt_f rfl).trans ?_
  exact tt_f2 (p := fun x y => y ≤ x) inferInstance rfl
theorem B98_14 {l0 : Int64} {l2 : Int32} {l3 : Int32} {l4 : Int32} {l5 : Int32} {v1 : Int32} {I2 : zI} {J3 : zJ} (hb : Nat.ble k.1 (mBu 98).1 = true ∧ Nat.ble k.2 (mBu 98).2 = true) (hq : zq S 97 [.long l0, .int l2, .int l5] I J (some (.int v1)) I2 J3) : zd S 98 14 [some (.long l0), none, some (.int l2), some (.int l3), some (.int l4), some (.int l5), none] [] I J k = zd S 98 21 [some (.long l0), none, some (.int l2), some (.int l3), some (.int l4), some (.int l5), none] [.int v1] I2 J3 k := by
  refine (tt_f rfl).trans ?_
  refine (tt_ll rfl).trans ?_
  refine (tt_f rfl).trans ?_
  refine (tt_il rfl).trans ?_
  refine (tt_f rfl).trans ?_
  refine (tt_il rfl).trans ?_
  exact tt_cs (vs := [.long l0, .int l2, .int l5]) rfl hb.1 hb.2 rfl rfl rfl rfl hq
theorem B98_21 {l0 : Int64} {l2 : Int32} {l3 : Int32} {l4 : Int32} {l5 : Int32} {t0 : Int32} {v1 : Int32} {I2 : zI} {J3 : zJ} (hb : Nat.ble k.1 (mBu 98).1 = true ∧ Nat.ble k.2 (mBu 98).2 = true) (hq : zq S 95 [.int t0] I J (some (.int v1)) I2 J3) : zd S 98 21 [some (.long l0), none, some (.int l2), some (.int l3), some (.int l4), some (.int l5), none] [.int t0] I J k = zd S 98 28 [some (.long l0), none, some (.int l2), some (.int l3), some (.int l4), some (.int l5), some (.int t0)] [.int v1] I2 J3 k := by
  refine (tt_f rfl).trans ?_
  refine (tt_is rfl rfl).trans ?_
  refine (tt_f rfl).trans ?_
  refine (tt_il rfl).trans ?_
  exact tt_cs (vs := [.int t0]) rfl hb.1 hb.2 rfl rfl rfl rfl hq
theorem B98_28 {l0 : Int64} {l2 : Int32} {l3 : Int32} {l4 : Int32} {l5 : Int32} {l6 : Int32} {t0 : Int32}  : zd S 98 28 [some (.long l0), none, some (.int l2), some (.int l3), some (.int l4), some (.int l5), some (.int l6)] [.int t0] I J k = if t0 = 0 then zd S 98 38 [some (.long l0), none, some (.int l2), some (.int l3), some (.int l4), some (.int l5), some (.int l6)] [] I J k else zd S 98 31 [some (.long l0), none, some (.int l2), some (.int l3), some (.int l4), some (.int l5), some (.int l6)] [] I J k := by
  refine (tt_f rfl).trans ?_
  exact tt_f1 (p := fun x => x = 0) inferInstance rfl
theorem B98_31 {l0 : Int64} {l2 : Int32} {l3 : Int32} {l4 : Int32} {l5 : Int32} {l6 : Int32}  : zd S 98 31 [some (.long l0), none, some (.int l2), some (.int l3), some (.int l4), some (.int l5), some (.int l6)] [] I J k = if l3 = 0 then zd S 98 78 [some (.long l0), none, some (.int l2), some (.int l3), some (.int (l4 + 1)), some (.int l5), some (.int l6)] [] I J k else zd S 98 46 [some (.long l0), none, some (.int l2), some (.int l3), some (.int (l4 + 1)), some (.int l5), some (.int l6)] [] I J k := by
  refine (tt_f rfl).trans ?_
  refine (tt_il rfl).trans ?_
  refine (tt_f rfl).trans ?_
  refine tt_c.trans ?_
  refine (tt_f rfl).trans ?_
  refine tt_bi.trans ?_
  refine (tt_f rfl).trans ?_
  refine tt_go.trans ?_
  refine (tt_fk rfl rfl).trans ?_
  refine (tt_is rfl rfl).trans ?_
  refine (tt_f rfl).trans ?_
  refine (tt_il rfl).trans ?_
  refine (tt_f rfl).trans ?_
  exact tt_f1 (p := fun x => x = 0) inferInstance rfl
theorem B98_38 {l0 : Int64} {l2 : Int32} {l3 : Int32} {l4 : Int32} {l5 : Int32} {l6 : Int32}  : zd S 98 38 [some (.long l0), none, some (.int l2), some (.int l3), some (.int l4), some (.int l5), some (.int l6)] [] I J k = if l3 = 0 then zd S 98 78 [some (.long l0), none, some (.int l2), some (.int l3), some (.int l4), some (.int l5), some (.int l6)] [] I J k else zd S 98 46 [some (.long l0), none, some (.int l2), some (.int l3), some (.int l4), some (.int l5), some (.int l6)] [] I J k := by
  refine (tt_f rfl).trans ?_
  refine (tt_il rfl).trans ?_
  refine (tt_fk rfl rfl).trans ?_
  refine (tt_is rfl rfl).trans ?_
  refine (tt_f rfl).trans ?_
  refine (tt_il rfl).trans ?_
  refine (tt_f rfl).trans ?_
  exact tt_f1 (p := fun x => x = 0) inferInstance rfl
theorem B98_46 {l0 : Int64} {l2 : Int32} {l3 : Int32} {l4 : Int32} {l5 : Int32} {l6 : Int32} {v1 : Int32} {I2 : zI} {J3 : zJ} (hb : Nat.ble k.1 (mBu 98).1 = true ∧ Nat.ble k.2 (mBu 98).2 = true) (hq : zq S 95 [.int l6] I J (some (.int v1)) I2 J3) : zd S 98 46 [some (.long l0), none, some (.int l2), some (.int l3), some (.int l4), some (.int l5), some (.int l6)] [] I J k = zd S 98 51 [some (.long l0), none, some (.int l2), some (.int l3), some (.int l4), some (.int l5), some (.int l6)] [.int v1] I2 J3 k := by
  refine (tt_f rfl).trans ?_
  refine (tt_il rfl).trans ?_
  exact tt_cs (vs := [.int l6]) rfl hb.1 hb.2 rfl rfl rfl rfl hq
theorem B98_51 {l0 : Int64} {l2 : Int32} {l3 : Int32} {l4 : Int32} {l5 : Int32} {l6 : Int32} {t0 : Int32}  : zd S 98 51 [some (.long l0), none, some (.int l2), some (.int l3), some (.int l4), some (.int l5), some (.int l6)] [.int t0] I J k = if ¬ t0 = 0 then zd S 98 74 [some (.long l0), none, some (.int l2), some (.int l3), some (.int l4), some (.int l5), some (.int l6)] [] I J k else zd S 98 54 [some (.long l0), none, some (.int l2), some (.int l3), some (.int l4), some (.int l5), some (.int l6)] [] I J k := by
  refine (tt_f rfl).trans ?_
  exact tt_f1 (p := fun x => ¬ x = 0) inferInstance rfl
theorem B98_54 {l0 : Int64} {l2 : Int32} {l3 : Int32} {l4 : Int32} {l5 : Int32} {l6 : Int32}  : zd S 98 54 [some (.long l0), none, some (.int l2), some (.int l3), some (.int l4), some (.int l5), some (.int l6)] [] I J k = if ¬ l6 = 46 then zd S 98 78 [some (.long l0), none, some (.int l2), some (.int l3), some (.int l4), some (.int l5), some (.int l6)] [] I J k else zd S 98 61 [some (.long l0), none, some (.int l2), some (.int l3), some (.int l4), some (.int l5), some (.int l6)] [] I J k := by
  refine (tt_f rfl).trans ?_
  refine (tt_il rfl).trans ?_
  refine (tt_f rfl).trans ?_
  refine tt_c.trans ?_
  refine (tt_f rfl).trans ?_
  exact tt_f2 (p := fun x y => ¬ x = y) inferInstance rfl
theorem B98_61 {l0 : Int64} {l2 : Int32} {l3 : Int32} {l4 : Int32} {l5 : Int32} {l6 : Int32}  : zd S 98 61 [some (.long l0), none, some (.int l2), some (.int l3), some (.int l4), some (.int l5), some (.int l6)] [] I J k = if l5 = 0 then zd S 98 74 [some (.long l0), none, some (.int l2), some (.int l3), some (.int l4), some (.int l5), some (.int l6)] [] I J k else zd S 98 66 [some (.long l0), none, some (.int l2), some (.int l3), some (.int l4), some (.int l5), some (.int l6)] [] I J k := by
  refine (tt_f rfl).trans ?_
  refine (tt_il rfl).trans ?_
  refine (tt_f rfl).trans ?_
  exact tt_f1 (p := fun x => x = 0) inferInstance rfl
theorem B98_66 {l0 : Int64} {l2 : Int32} {l3 : Int32} {l4 : Int32} {l5 : Int32} {l6 : Int32}  : zd S 98 66 [some (.long l0), none, some (.int l2), some (.int l3), some (.int l4), some (.int l5), some (.int l6)] [] I J k = if ¬ l5 = (l2 - 1) then zd S 98 78 [some (.long l0), none, some (.int l2), some (.int l3), some (.int l4), some (.int l5), some (.int l6)] [] I J k else zd S 98 74 [some (.long l0), none, some (.int l2), some (.int l3), some (.int l4), some (.int l5), some (.int l6)] [] I J k := by
  refine (tt_f rfl).trans ?_
  refine (tt_il rfl).trans ?_
  refine (tt_f rfl).trans ?_
  refine (tt_il rfl).trans ?_
  refine (tt_f rfl).trans ?_
  refine tt_c.trans ?_
  refine (tt_f rfl).trans ?_
  refine tt_bi.trans ?_
  refine (tt_f rfl).trans ?_
  exact tt_f2 (p := fun x y => ¬ x = y) inferInstance rfl
theorem B98_74 {l0 : Int64} {l2 : Int32} {l3 : Int32} {l4 : Int32} {l5 : Int32} {l6 : Int32}  : zd S 98 74 [some (.long l0), none, some (.int l2), some (.int l3), some (.int l4), some (.int l5), some (.int l6)] [] I J k = zd S 98 8 [some (.long l0), none, some (.int l2), some (.int 1), some (.int l4), some (.int (l5 + 1)), none] [] I J k := by
  refine (tt_fk rfl rfl).trans ?_
  refine tt_c.trans ?_
  refine (tt_f rfl).trans ?_
  refine tt_go.trans ?_
  refine (tt_fk rfl rfl).trans ?_
  refine (tt_is rfl rfl).trans ?_
  refine (tt_f rfl).trans ?_
  refine (tt_in rfl rfl).trans ?_
  refine (tt_f rfl).trans ?_
  refine tt_go.trans ?_
  rfl
theorem B98_78 {l0 : Int64} {l2 : Int32} {l3 : Int32} {l4 : Int32} {l5 : Int32} {l6 : Int32}  : zd S 98 78 [some (.long l0), none, some (.int l2), some (.int l3), some (.int l4), some (.int l5), some (.int l6)] [] I J k = zd S 98 8 [some (.long l0), none, some (.int l2), some (.int 0), some (.int l4), some (.int (l5 + 1)), none] [] I J k := by
  refine (tt_fk rfl rfl).trans ?_
  refine tt_c.trans ?_
  refine (tt_fk rfl rfl).trans ?_
  refine (tt_is rfl rfl).trans ?_
  refine (tt_f rfl).trans ?_
  refine (tt_in rfl rfl).trans ?_
  refine (tt_f rfl).trans ?_
  refine tt_go.trans ?_
  rfl
theorem B98_86 {l0 : Int64} {l2 : Int32} {l3 : Int32} {l4 : Int32} {l5 : Int32}  : zd S 98 86 [some (.long l0), none, some (.int l2), some (.int l3), some (.int l4), some (.int l5), none] [] I J k = if l3 = 0 then zd S 98 99 [some (.long l0), none, some (.int l2), some (.int l3), some (.int l4), some (.int l5), none] [] I J k else zd S 98 90 [some (.long l0), none, some (.int l2), some (.int l3), some (.int l4), some (.int l5), none] [] I J k := by
  refine (tt_f rfl).trans ?_
  refine (tt_il rfl).trans ?_
  refine (tt_f rfl).trans ?_
  exact tt_f1 (p := fun x => x = 0) inferInstance rfl
theorem B98_90 {l0 : Int64} {l2 : Int32} {l3 : Int32} {l4 : Int32} {l5 : Int32}  : zd S 98 90 [some (.long l0), none, some (.int l2), some (.int l3), some (.int l4), some (.int l5), none] [] I J k = if l4 ≤ 0 then zd S 98 99 [some (.long l0), none, some (.int l2), some (.int l3), some (.int l4), some (.int l5), none] [] I J k else zd S 98 95 [some (.long l0), none, some (.int l2), some (.int l3), some (.int l4), some (.int l5), none] [] I J k := by
  refine (tt_f rfl).trans ?_
  refine (tt_il rfl).trans ?_
  refine (tt_f rfl).trans ?_
  exact tt_f1 (p := fun x => x ≤ 0) inferInstance rfl
theorem B98_95 {l0 : Int64} {l2 : Int32} {l3 : Int32} {l4 : Int32} {l5 : Int32} (hz : zrt 2 (.int 1) = true) : zd S 98 95 [some (.long l0), none, some (.int l2), some (.int l3), some (.int l4), some (.int l5), none] [] I J k = some ((some (.int 1)), mk I J, k) := by
  refine (tt_f rfl).trans ?_
  refine tt_c.trans ?_
  refine (tt_f rfl).trans ?_
  refine tt_go.trans ?_
  exact tt_r1 rfl hz
theorem B98_99 {l0 : Int64} {l2 : Int32} {l3 : Int32} {l4 : Int32} {l5 : Int32} (hz : zrt 2 (.int 0) = true) : zd S 98 99 [some (.long l0), none, some (.int l2), some (.int l3), some (.int l4), some (.int l5), none] [] I J k = some ((some (.int 0)), mk I J, k) := by
  refine (tt_fk rfl rfl).trans ?_
  refine tt_c.trans ?_
  exact tt_r1 rfl hz
/-! 99: EditionGridModel.isPattern -/
theorem B99_0 {l1 : Int32} {l2 : Int64} {l4 : Int32} (hi1 : zin l1 20 = true) : zd S 99 0 [some (.ref 76), some (.int l1), some (.long l2), none, some (.int l4), none, none] [] I J k = if ¬ (I 79 l1.toNatClampNeg) = l4 then zd S 99 15 [some (.ref 76), some (.int l1), some (.long l2), none, some (.int l4), none, none] [] I J k else zd S 99 11 [some (.ref 76), some (.int l1), some (.long l2), none, some (.int l4), none, none] [] I J k := by
  refine (tt_f rfl).trans ?_
  refine (tt_al rfl).trans ?_
  refine (tt_f rfl).trans ?_
  refine (tt_gr rfl rfl).trans ?_
  refine (tt_f rfl).trans ?_
  refine (tt_il rfl).trans ?_
  refine (tt_f rfl).trans ?_
  refine (tt_ga rfl rfl hi1).trans ?_
  refine (tt_f rfl).trans ?_
  refine (tt_il rfl).trans ?_
  refine (tt_f rfl).trans ?_
  exact tt_f2 (p := fun x y => ¬ x = y) inferInstance rfl
theorem B99_11 {l1 : Int32} {l2 : Int64} {l4 : Int32}  : zd S 99 11 [some (.ref 76), some (.int l1), some (.long l2), none, some (.int l4), none, none] [] I J k = zd S 99 21 [some (.ref 76), some (.int l1), some (.long l2), none, some (.int l4), some (.int 1), some (.int 0)] [] I J k := by
  refine (tt_f rfl).trans ?_
  refine tt_c.trans ?_
  refine (tt_f rfl).trans ?_
  refine tt_go.trans ?_
  refine (tt_fk rfl rfl).trans ?_
  refine (tt_is rfl rfl).trans ?_
  refine (tt_f rfl).trans ?_
  refine tt_c.trans ?_
  refine (tt_f rfl).trans ?_
  refine (tt_is rfl rfl).trans ?_
  rfl
theorem B99_15 {l1 : Int32} {l2 : Int64} {l4 : Int32}  : zd S 99 15 [some (.ref 76), some (.int l1), some (.long l2), none, some (.int l4), none, none] [] I J k = zd S 99 21 [some (.ref 76), some (.int l1), some (.long l2), none, some (.int l4), some (.int 0), some (.int 0)] [] I J k := by
  refine (tt_f rfl).trans ?_
  refine tt_c.trans ?_
  refine (tt_fk rfl rfl).trans ?_
  refine (tt_is rfl rfl).trans ?_
  refine (tt_f rfl).trans ?_
  refine tt_c.trans ?_
  refine (tt_f rfl).trans ?_
  refine (tt_is rfl rfl).trans ?_
  rfl
theorem B99_21 {l1 : Int32} {l2 : Int64} {l4 : Int32} {l5 : Int32} {l6 : Int32}  : zd S 99 21 [some (.ref 76), some (.int l1), some (.long l2), none, some (.int l4), some (.int l5), some (.int l6)] [] I J k = if l4 ≤ l6 then zd S 99 69 [some (.ref 76), some (.int l1), some (.long l2), none, some (.int l4), some (.int l5), some (.int l6)] [] I J k else zd S 99 28 [some (.ref 76), some (.int l1), some (.long l2), none, some (.int l4), some (.int l5), some (.int l6)] [] I J k := by
  refine (tt_fk rfl rfl).trans ?_
  refine (tt_il rfl).trans ?_
  refine (tt_f rfl).trans ?_
  refine (tt_il rfl).trans ?_
  refine (tt_f rfl).trans ?_
  exact tt_f2 (p := fun x y => y ≤ x) inferInstance rfl
theorem B99_28 {l1 : Int32} {l2 : Int64} {l4 : Int32} {l5 : Int32} {l6 : Int32}  : zd S 99 28 [some (.ref 76), some (.int l1), some (.long l2), none, some (.int l4), some (.int l5), some (.int l6)] [] I J k = if l5 = 0 then zd S 99 69 [some (.ref 76), some (.int l1), some (.long l2), none, some (.int l4), some (.int l5), some (.int l6)] [] I J k else zd S 99 33 [some (.ref 76), some (.int l1), some (.long l2), none, some (.int l4), some (.int l5), some (.int l6)] [] I J k := by
  refine (tt_f rfl).trans ?_
  refine (tt_il rfl).trans ?_
  refine (tt_f rfl).trans ?_
  exact tt_f1 (p := fun x => x = 0) inferInstance rfl
theorem B99_33 {l1 : Int32} {l2 : Int64} {l4 : Int32} {l5 : Int32} {l6 : Int32} {v2 : Int32} {I3 : zI} {J4 : zJ} (hb : Nat.ble k.1 (mBu 99).1 = true ∧ Nat.ble k.2 (mBu 99).2 = true) (hi1 : zin ((6 * l1) + l6) 120 = true) (hq : zq S 97 [.long l2, .int l4, .int l6] I J (some (.int v2)) I3 J4) : zd S 99 33 [some (.ref 76), some (.int l1), some (.long l2), none, some (.int l4), some (.int l5), some (.int l6)] [] I J k = zd S 99 53 [some (.ref 76), some (.int l1), some (.long l2), none, some (.int l4), some (.int l5), some (.int l6)] [.int v2, .int (I 80 ((6 * l1) + l6).toNatClampNeg)] I3 J4 k := by
  refine (tt_f rfl).trans ?_
  refine (tt_al rfl).trans ?_
  refine (tt_f rfl).trans ?_
  refine (tt_gr rfl rfl).trans ?_
  refine (tt_f rfl).trans ?_
  refine tt_c.trans ?_
  refine (tt_f rfl).trans ?_
  refine (tt_il rfl).trans ?_
  refine (tt_f rfl).trans ?_
  refine tt_bi.trans ?_
  refine (tt_f rfl).trans ?_
  refine (tt_il rfl).trans ?_
  refine (tt_f rfl).trans ?_
  refine tt_bi.trans ?_
  refine (tt_f rfl).trans ?_
  refine (tt_ga rfl rfl hi1).trans ?_
  refine (tt_f rfl).trans ?_
  refine (tt_ll rfl).trans ?_
  refine (tt_f rfl).trans ?_
  refine (tt_il rfl).trans ?_
  refine (tt_f rfl).trans ?_
  refine (tt_il rfl).trans ?_
  exact tt_cs (vs := [.long l2, .int l4, .int l6]) rfl hb.1 hb.2 rfl rfl rfl rfl hq
theorem B99_53 {l1 : Int32} {l2 : Int64} {l4 : Int32} {l5 : Int32} {l6 : Int32} {t0 : Int32} {t1 : Int32}  : zd S 99 53 [some (.ref 76), some (.int l1), some (.long l2), none, some (.int l4), some (.int l5), some (.int l6)] [.int t1, .int t0] I J k = if ¬ t0 = t1 then zd S 99 60 [some (.ref 76), some (.int l1), some (.long l2), none, some (.int l4), some (.int l5), some (.int l6)] [] I J k else zd S 99 56 [some (.ref 76), some (.int l1), some (.long l2), none, some (.int l4), some (.int l5), some (.int l6)] [] I J k := by
  refine (tt_f rfl).trans ?_
  exact tt_f2 (p := fun x y => ¬ x = y) inferInstance rfl
theorem B99_56 {l1 : Int32} {l2 : Int64} {l4 : Int32} {l5 : Int32} {l6 : Int32}  : zd S 99 56 [some (.ref 76), some (.int l1), some (.long l2), none, some (.int l4), some (.int l5), some (.int l6)] [] I J k = zd S 99 21 [some (.ref 76), some (.int l1), some (.long l2), none, some (.int l4), some (.int 1), some (.int (l6 + 1))] [] I J k := by
  refine (tt_f rfl).trans ?_
  refine tt_c.trans ?_
  refine (tt_f rfl).trans ?_
  refine tt_go.trans ?_
  refine (tt_fk rfl rfl).trans ?_
  refine (tt_is rfl rfl).trans ?_
  refine (tt_f rfl).trans ?_
  refine (tt_in rfl rfl).trans ?_
  refine (tt_f rfl).trans ?_
  refine tt_go.trans ?_
  rfl
theorem B99_60 {l1 : Int32} {l2 : Int64} {l4 : Int32} {l5 : Int32} {l6 : Int32}  : zd S 99 60 [some (.ref 76), some (.int l1), some (.long l2), none, some (.int l4), some (.int l5), some (.int l6)] [] I J k = zd S 99 21 [some (.ref 76), some (.int l1), some (.long l2), none, some (.int l4), some (.int 0), some (.int (l6 + 1))] [] I J k := by
  refine (tt_f rfl).trans ?_
  refine tt_c.trans ?_
  refine (tt_fk rfl rfl).trans ?_
  refine (tt_is rfl rfl).trans ?_
  refine (tt_f rfl).trans ?_
  refine (tt_in rfl rfl).trans ?_
  refine (tt_f rfl).trans ?_
  refine tt_go.trans ?_
  rfl
theorem B99_69 {l1 : Int32} {l2 : Int64} {l4 : Int32} {l5 : Int32} {l6 : Int32} (hz : zrt 2 (.int l5) = true) : zd S 99 69 [some (.ref 76), some (.int l1), some (.long l2), none, some (.int l4), some (.int l5), some (.int l6)] [] I J k = some ((some (.int l5)), mk I J, k) := by
  refine (tt_fk rfl rfl).trans ?_
  refine (tt_il rfl).trans ?_
  exact tt_r1 rfl hz
/-! 100: EditionGridModel.pattern -/
theorem B100_0 {l1 : Int64} {l3 : Int32} {l4 : Int64}  : zd S 100 0 [some (.ref 76), some (.long l1), none, some (.int l3), some (.long l4), none, none, none] [] I J k = if l3 < 1 then zd S 100 19 [some (.ref 76), some (.long l1), none, some (.int l3), some (.long l4), none, none, none] [] I J k else zd S 100 5 [some (.ref 76), some (.long l1), none, some (.int l3), some (.long l4), none, none, none] [] I J k := by
  refine (tt_f rfl).trans ?_
  refine (tt_il rfl).trans ?_
  refine (tt_f rfl).trans ?_
  refine tt_c.trans ?_
  refine (tt_f rfl).trans ?_
  exact tt_f2 (p := fun x y => x < y) inferInstance rfl
theorem B100_5 {l1 : Int64} {l3 : Int32} {l4 : Int64}  : zd S 100 5 [some (.ref 76), some (.long l1), none, some (.int l3), some (.long l4), none, none, none] [] I J k = if 6 < l3 then zd S 100 19 [some (.ref 76), some (.long l1), none, some (.int l3), some (.long l4), none, none, none] [] I J k else zd S 100 11 [some (.ref 76), some (.long l1), none, some (.int l3), some (.long l4), none, none, none] [] I J k := by
  refine (tt_f rfl).trans ?_
  refine (tt_il rfl).trans ?_
  refine (tt_f rfl).trans ?_
  refine tt_c.trans ?_
  refine (tt_f rfl).trans ?_
  exact tt_f2 (p := fun x y => y < x) inferInstance rfl
theorem B100_11 {l1 : Int64} {l3 : Int32} {l4 : Int64} {v1 : Int32} {I2 : zI} {J3 : zJ} (hb : Nat.ble k.1 (mBu 100).1 = true ∧ Nat.ble k.2 (mBu 100).2 = true) (hq : zq S 98 [.long l1, .int l3] I J (some (.int v1)) I2 J3) : zd S 100 11 [some (.ref 76), some (.long l1), none, some (.int l3), some (.long l4), none, none, none] [] I J k = zd S 100 16 [some (.ref 76), some (.long l1), none, some (.int l3), some (.long l4), none, none, none] [.int v1] I2 J3 k := by
  refine (tt_f rfl).trans ?_
  refine (tt_ll rfl).trans ?_
  refine (tt_f rfl).trans ?_
  refine (tt_il rfl).trans ?_
  exact tt_cs (vs := [.long l1, .int l3]) rfl hb.1 hb.2 rfl rfl rfl rfl hq
theorem B100_16 {l1 : Int64} {l3 : Int32} {l4 : Int64} {t0 : Int32}  : zd S 100 16 [some (.ref 76), some (.long l1), none, some (.int l3), some (.long l4), none, none, none] [.int t0] I J k = if ¬ t0 = 0 then zd S 100 21 [some (.ref 76), some (.long l1), none, some (.int l3), some (.long l4), none, none, none] [] I J k else zd S 100 19 [some (.ref 76), some (.long l1), none, some (.int l3), some (.long l4), none, none, none] [] I J k := by
  refine (tt_f rfl).trans ?_
  exact tt_f1 (p := fun x => ¬ x = 0) inferInstance rfl
theorem B100_19 {l1 : Int64} {l3 : Int32} {l4 : Int64}  : zd S 100 19 [some (.ref 76), some (.long l1), none, some (.int l3), some (.long l4), none, none, none] [] I J k = some ((some (.int (-1))), mk I J, k) := by
  refine (tt_fk rfl rfl).trans ?_
  refine tt_c.trans ?_
  exact tt_r1 rfl rfl
theorem B100_21 {l1 : Int64} {l3 : Int32} {l4 : Int64}  : zd S 100 21 [some (.ref 76), some (.long l1), none, some (.int l3), some (.long l4), none, none, none] [] I J k = zd S 100 24 [some (.ref 76), some (.long l1), none, some (.int l3), some (.long l4), none, some (.int 0), none] [] I J k := by
  refine (tt_f rfl).trans ?_
  refine tt_c.trans ?_
  refine (tt_f rfl).trans ?_
  refine (tt_is rfl rfl).trans ?_
  rfl
theorem B100_24 {l1 : Int64} {l3 : Int32} {l4 : Int64} {l6 : Int32}  : zd S 100 24 [some (.ref 76), some (.long l1), none, some (.int l3), some (.long l4), none, some (.int l6), none] [] I J k = if l3 < l6 then zd S 100 53 [some (.ref 76), some (.long l1), none, some (.int l3), some (.long l4), none, some (.int l6), none] [] I J k else zd S 100 30 [some (.ref 76), some (.long l1), none, some (.int l3), some (.long l4), none, some (.int l6), none] [] I J k := by
  refine (tt_fk rfl rfl).trans ?_
  refine (tt_il rfl).trans ?_
  refine (tt_f rfl).trans ?_
  refine (tt_il rfl).trans ?_
  refine (tt_f rfl).trans ?_
  exact tt_f2 (p := fun x y => y < x) inferInstance rfl
theorem B100_30 {l1 : Int64} {l3 : Int32} {l4 : Int64} {l6 : Int32} {v1 : Int32} {I2 : zI} {J3 : zJ} (hb : Nat.ble k.1 (mBu 100).1 = true ∧ Nat.ble k.2 (mBu 100).2 = true) (hq : zq S 97 [.long l4, .int (l3 + 1), .int l6] I J (some (.int v1)) I2 J3) : zd S 100 30 [some (.ref 76), some (.long l1), none, some (.int l3), some (.long l4), none, some (.int l6), none] [] I J k = zd S 100 40 [some (.ref 76), some (.long l1), none, some (.int l3), some (.long l4), none, some (.int l6), none] [.int v1] I2 J3 k := by
  refine (tt_f rfl).trans ?_
  refine (tt_ll rfl).trans ?_
  refine (tt_f rfl).trans ?_
  refine (tt_il rfl).trans ?_
  refine (tt_f rfl).trans ?_
  refine tt_c.trans ?_
  refine (tt_f rfl).trans ?_
  refine tt_bi.trans ?_
  refine (tt_f rfl).trans ?_
  refine (tt_il rfl).trans ?_
  exact tt_cs (vs := [.long l4, .int (l3 + 1), .int l6]) rfl hb.1 hb.2 rfl rfl rfl rfl hq
theorem B100_40 {l1 : Int64} {l3 : Int32} {l4 : Int64} {l6 : Int32} {t0 : Int32}  : zd S 100 40 [some (.ref 76), some (.long l1), none, some (.int l3), some (.long l4), none, some (.int l6), none] [.int t0] I J k = if t0 ≤ 9 then zd S 100 47 [some (.ref 76), some (.long l1), none, some (.int l3), some (.long l4), none, some (.int l6), none] [] I J k else zd S 100 45 [some (.ref 76), some (.long l1), none, some (.int l3), some (.long l4), none, some (.int l6), none] [] I J k := by
  refine (tt_f rfl).trans ?_
  refine tt_c.trans ?_
  refine (tt_f rfl).trans ?_
  exact tt_f2 (p := fun x y => x ≤ y) inferInstance rfl
theorem B100_45 {l1 : Int64} {l3 : Int32} {l4 : Int64} {l6 : Int32}  : zd S 100 45 [some (.ref 76), some (.long l1), none, some (.int l3), some (.long l4), none, some (.int l6), none] [] I J k = some ((some (.int (-1))), mk I J, k) := by
  refine (tt_f rfl).trans ?_
  refine tt_c.trans ?_
  exact tt_r1 rfl rfl
theorem B100_47 {l1 : Int64} {l3 : Int32} {l4 : Int64} {l6 : Int32}  : zd S 100 47 [some (.ref 76), some (.long l1), none, some (.int l3), some (.long l4), none, some (.int l6), none] [] I J k = zd S 100 24 [some (.ref 76), some (.long l1), none, some (.int l3), some (.long l4), none, some (.int (l6 + 1)), none] [] I J k := by
  refine (tt_f rfl).trans ?_
  refine (tt_in rfl rfl).trans ?_
  refine (tt_f rfl).trans ?_
  refine tt_go.trans ?_
  rfl
theorem B100_53 {l1 : Int64} {l3 : Int32} {l4 : Int64} {l6 : Int32}  : zd S 100 53 [some (.ref 76), some (.long l1), none, some (.int l3), some (.long l4), none, some (.int l6), none] [] I J k = zd S 100 56 [some (.ref 76), some (.long l1), none, some (.int l3), some (.long l4), none, some (.int 0), none] [] I J k := by
  refine (tt_f rfl).trans ?_
  refine tt_c.trans ?_
  refine (tt_f rfl).trans ?_
  refine (tt_is rfl rfl).trans ?_
  rfl
theorem B100_56 {l1 : Int64} {l3 : Int32} {l4 : Int64} {l6 : Int32}  : zd S 100 56 [some (.ref 76), some (.long l1), none, some (.int l3), some (.long l4), none, some (.int l6), none] [] I J k = if (I 76 5) ≤ l6 then zd S 100 82 [some (.ref 76), some (.long l1), none, some (.int l3), some (.long l4), none, some (.int l6), none] [] I J k else zd S 100 65 [some (.ref 76), some (.long l1), none, some (.int l3), some (.long l4), none, some (.int l6), none] [] I J k := by
  refine (tt_fk rfl rfl).trans ?_
  refine (tt_il rfl).trans ?_
  refine (tt_f rfl).trans ?_
  refine (tt_al rfl).trans ?_
  refine (tt_f rfl).trans ?_
  refine (tt_gi rfl rfl).trans ?_
  refine (tt_f rfl).trans ?_
  exact tt_f2 (p := fun x y => y ≤ x) inferInstance rfl
theorem B100_65 {l1 : Int64} {l3 : Int32} {l4 : Int64} {l6 : Int32} {v1 : Int32} {I2 : zI} {J3 : zJ} (hb : Nat.ble k.1 (mBu 100).1 = true ∧ Nat.ble k.2 (mBu 100).2 = true) (hq : zq S 99 [.ref 76, .int l6, .long l1, .int l3] I J (some (.int v1)) I2 J3) : zd S 100 65 [some (.ref 76), some (.long l1), none, some (.int l3), some (.long l4), none, some (.int l6), none] [] I J k = zd S 100 73 [some (.ref 76), some (.long l1), none, some (.int l3), some (.long l4), none, some (.int l6), none] [.int v1] I2 J3 k := by
  refine (tt_f rfl).trans ?_
  refine (tt_al rfl).trans ?_
  refine (tt_f rfl).trans ?_
  refine (tt_il rfl).trans ?_
  refine (tt_f rfl).trans ?_
  refine (tt_ll rfl).trans ?_
  refine (tt_f rfl).trans ?_
  refine (tt_il rfl).trans ?_
  exact tt_cv (As := [.int l6, .long l1, .int l3]) rfl hb.1 hb.2 rfl rfl rfl rfl rfl hq
theorem B100_73 {l1 : Int64} {l3 : Int32} {l4 : Int64} {l6 : Int32} {t0 : Int32}  : zd S 100 73 [some (.ref 76), some (.long l1), none, some (.int l3), some (.long l4), none, some (.int l6), none] [.int t0] I J k = if ¬ t0 = 0 then zd S 100 82 [some (.ref 76), some (.long l1), none, some (.int l3), some (.long l4), none, some (.int l6), none] [] I J k else zd S 100 76 [some (.ref 76), some (.long l1), none, some (.int l3), some (.long l4), none, some (.int l6), none] [] I J k := by
  refine (tt_f rfl).trans ?_
  exact tt_f1 (p := fun x => ¬ x = 0) inferInstance rfl
theorem B100_76 {l1 : Int64} {l3 : Int32} {l4 : Int64} {l6 : Int32}  : zd S 100 76 [some (.ref 76), some (.long l1), none, some (.int l3), some (.long l4), none, some (.int l6), none] [] I J k = zd S 100 56 [some (.ref 76), some (.long l1), none, some (.int l3), some (.long l4), none, some (.int (l6 + 1)), none] [] I J k := by
  refine (tt_f rfl).trans ?_
  refine (tt_in rfl rfl).trans ?_
  refine (tt_f rfl).trans ?_
  refine tt_go.trans ?_
  rfl
theorem B100_82 {l1 : Int64} {l3 : Int32} {l4 : Int64} {l6 : Int32}  : zd S 100 82 [some (.ref 76), some (.long l1), none, some (.int l3), some (.long l4), none, some (.int l6), none] [] I J k = if ¬ l6 = 20 then zd S 100 92 [some (.ref 76), some (.long l1), none, some (.int l3), some (.long l4), none, some (.int l6), none] [] I J k else zd S 100 89 [some (.ref 76), some (.long l1), none, some (.int l3), some (.long l4), none, some (.int l6), none] [] I J k := by
  refine (tt_fk rfl rfl).trans ?_
  refine (tt_il rfl).trans ?_
  refine (tt_f rfl).trans ?_
  refine tt_c.trans ?_
  refine (tt_f rfl).trans ?_
  exact tt_f2 (p := fun x y => ¬ x = y) inferInstance rfl
theorem B100_89 {l1 : Int64} {l3 : Int32} {l4 : Int64} {l6 : Int32}  : zd S 100 89 [some (.ref 76), some (.long l1), none, some (.int l3), some (.long l4), none, some (.int l6), none] [] I J k = some ((some (.int (-2))), mk I J, k) := by
  refine (tt_f rfl).trans ?_
  refine tt_c.trans ?_
  exact tt_r1 rfl rfl
theorem B100_92 {l1 : Int64} {l3 : Int32} {l4 : Int64} {l6 : Int32}  : zd S 100 92 [some (.ref 76), some (.long l1), none, some (.int l3), some (.long l4), none, some (.int l6), none] [] I J k = if ¬ l6 = (I 76 5) then zd S 100 111 [some (.ref 76), some (.long l1), none, some (.int l3), some (.long l4), none, some (.int l6), none] [.ref 76] I J k else zd S 100 102 [some (.ref 76), some (.long l1), none, some (.int l3), some (.long l4), none, some (.int l6), none] [.ref 76] I J k := by
  refine (tt_f rfl).trans ?_
  refine (tt_al rfl).trans ?_
  refine (tt_f rfl).trans ?_
  refine (tt_il rfl).trans ?_
  refine (tt_f rfl).trans ?_
  refine (tt_al rfl).trans ?_
  refine (tt_f rfl).trans ?_
  refine (tt_gi rfl rfl).trans ?_
  refine (tt_f rfl).trans ?_
  exact tt_f2 (p := fun x y => ¬ x = y) inferInstance rfl
theorem B100_102 {l1 : Int64} {l3 : Int32} {l4 : Int64} {l6 : Int32}  : zd S 100 102 [some (.ref 76), some (.long l1), none, some (.int l3), some (.long l4), none, some (.int l6), none] [.ref 76] I J k = zd S 100 118 [some (.ref 76), some (.long l1), none, some (.int l3), some (.long l4), none, some (.int l6), none] [] (u2 I 76 5 ((I 76 5) + 1)) J k := by
  refine (tt_f rfl).trans ?_
  refine (tt_al rfl).trans ?_
  refine (tt_f rfl).trans ?_
  refine (tt_gi rfl rfl).trans ?_
  refine (tt_f rfl).trans ?_
  refine tt_c.trans ?_
  refine (tt_f rfl).trans ?_
  refine tt_bi.trans ?_
  refine (tt_f rfl).trans ?_
  refine tt_go.trans ?_
  refine (tt_fk rfl rfl).trans ?_
  exact tt_pi rfl rfl rfl
theorem B100_111 {l1 : Int64} {l3 : Int32} {l4 : Int64} {l6 : Int32}  : zd S 100 111 [some (.ref 76), some (.long l1), none, some (.int l3), some (.long l4), none, some (.int l6), none] [.ref 76] I J k = zd S 100 118 [some (.ref 76), some (.long l1), none, some (.int l3), some (.long l4), none, some (.int l6), none] [] (u2 I 76 5 (I 76 5)) J k := by
  refine (tt_f rfl).trans ?_
  refine (tt_al rfl).trans ?_
  refine (tt_f rfl).trans ?_
  refine (tt_gi rfl rfl).trans ?_
  refine (tt_fk rfl rfl).trans ?_
  exact tt_pi rfl rfl rfl
theorem B100_118 {l1 : Int64} {l3 : Int32} {l4 : Int64} {l6 : Int32} (hi1 : zin l6 20 = true) : zd S 100 118 [some (.ref 76), some (.long l1), none, some (.int l3), some (.long l4), none, some (.int l6), none] [] I J k = zd S 100 126 [some (.ref 76), some (.long l1), none, some (.int l3), some (.long l4), none, some (.int l6), none] [] (u2 I 79 l6.toNatClampNeg l3) J k := by
  refine (tt_f rfl).trans ?_
  refine (tt_al rfl).trans ?_
  refine (tt_f rfl).trans ?_
  refine (tt_gr rfl rfl).trans ?_
  refine (tt_f rfl).trans ?_
  refine (tt_il rfl).trans ?_
  refine (tt_f rfl).trans ?_
  refine (tt_il rfl).trans ?_
  refine (tt_f rfl).trans ?_
  exact tt_pa rfl rfl hi1
theorem B100_126 {l1 : Int64} {l3 : Int32} {l4 : Int64} {l6 : Int32}  : zd S 100 126 [some (.ref 76), some (.long l1), none, some (.int l3), some (.long l4), none, some (.int l6), none] [] I J k = zd S 100 129 [some (.ref 76), some (.long l1), none, some (.int l3), some (.long l4), none, some (.int l6), some (.int 0)] [] I J k := by
  refine (tt_f rfl).trans ?_
  refine tt_c.trans ?_
  refine (tt_f rfl).trans ?_
  refine (tt_is rfl rfl).trans ?_
  rfl
theorem B100_129 {l1 : Int64} {l3 : Int32} {l4 : Int64} {l6 : Int32} {l7 : Int32}  : zd S 100 129 [some (.ref 76), some (.long l1), none, some (.int l3), some (.long l4), none, some (.int l6), some (.int l7)] [] I J k = if l3 < l7 then zd S 100 204 [some (.ref 76), some (.long l1), none, some (.int l3), some (.long l4), none, some (.int l6), some (.int l7)] [] I J k else zd S 100 135 [some (.ref 76), some (.long l1), none, some (.int l3), some (.long l4), none, some (.int l6), some (.int l7)] [] I J k := by
  refine (tt_fk rfl rfl).trans ?_
  refine (tt_il rfl).trans ?_
  refine (tt_f rfl).trans ?_
  refine (tt_il rfl).trans ?_
  refine (tt_f rfl).trans ?_
  exact tt_f2 (p := fun x y => y < x) inferInstance rfl
theorem B100_135 {l1 : Int64} {l3 : Int32} {l4 : Int64} {l6 : Int32} {l7 : Int32}  : zd S 100 135 [some (.ref 76), some (.long l1), none, some (.int l3), some (.long l4), none, some (.int l6), some (.int l7)] [] I J k = if l3 ≤ l7 then zd S 100 155 [some (.ref 76), some (.long l1), none, some (.int l3), some (.long l4), none, some (.int l6), some (.int l7)] [.int (6 * l6), .ref 80] I J k else zd S 100 150 [some (.ref 76), some (.long l1), none, some (.int l3), some (.long l4), none, some (.int l6), some (.int l7)] [.int (6 * l6), .ref 80] I J k := by
  refine (tt_f rfl).trans ?_
  refine (tt_al rfl).trans ?_
  refine (tt_f rfl).trans ?_
  refine (tt_gr rfl rfl).trans ?_
  refine (tt_f rfl).trans ?_
  refine tt_c.trans ?_
  refine (tt_f rfl).trans ?_
  refine (tt_il rfl).trans ?_
  refine (tt_f rfl).trans ?_
  refine tt_bi.trans ?_
  refine (tt_f rfl).trans ?_
  refine (tt_il rfl).trans ?_
  refine (tt_f rfl).trans ?_
  refine (tt_il rfl).trans ?_
  refine (tt_f rfl).trans ?_
  exact tt_f2 (p := fun x y => y ≤ x) inferInstance rfl
theorem B100_150 {l1 : Int64} {l3 : Int32} {l4 : Int64} {l6 : Int32} {l7 : Int32} {t1 : Int32}  : zd S 100 150 [some (.ref 76), some (.long l1), none, some (.int l3), some (.long l4), none, some (.int l6), some (.int l7)] [.int t1, .ref 80] I J k = if l3 ≤ l7 then zd S 100 170 [some (.ref 76), some (.long l1), none, some (.int l3), some (.long l4), none, some (.int l6), some (.int l7)] [.int l3, .long l1, .int (t1 + l7), .ref 80] I J k else zd S 100 165 [some (.ref 76), some (.long l1), none, some (.int l3), some (.long l4), none, some (.int l6), some (.int l7)] [.int l3, .long l1, .int (t1 + l7), .ref 80] I J k := by
  refine (tt_f rfl).trans ?_
  refine (tt_il rfl).trans ?_
  refine (tt_f rfl).trans ?_
  refine tt_go.trans ?_
  refine (tt_fk rfl rfl).trans ?_
  refine tt_bi.trans ?_
  refine (tt_f rfl).trans ?_
  refine (tt_ll rfl).trans ?_
  refine (tt_f rfl).trans ?_
  refine (tt_il rfl).trans ?_
  refine (tt_f rfl).trans ?_
  refine (tt_il rfl).trans ?_
  refine (tt_f rfl).trans ?_
  refine (tt_il rfl).trans ?_
  refine (tt_f rfl).trans ?_
  exact tt_f2 (p := fun x y => y ≤ x) inferInstance rfl
theorem B100_155 {l1 : Int64} {l3 : Int32} {l4 : Int64} {l6 : Int32} {l7 : Int32} {t1 : Int32}  : zd S 100 155 [some (.ref 76), some (.long l1), none, some (.int l3), some (.long l4), none, some (.int l6), some (.int l7)] [.int t1, .ref 80] I J k = if l3 ≤ l7 then zd S 100 170 [some (.ref 76), some (.long l1), none, some (.int l3), some (.long l4), none, some (.int l6), some (.int l7)] [.int l3, .long l1, .int (t1 + 0), .ref 80] I J k else zd S 100 165 [some (.ref 76), some (.long l1), none, some (.int l3), some (.long l4), none, some (.int l6), some (.int l7)] [.int l3, .long l1, .int (t1 + 0), .ref 80] I J k := by
  refine (tt_f rfl).trans ?_
  refine tt_c.trans ?_
  refine (tt_fk rfl rfl).trans ?_
  refine tt_bi.trans ?_
  refine (tt_f rfl).trans ?_
  refine (tt_ll rfl).trans ?_
  refine (tt_f rfl).trans ?_
  refine (tt_il rfl).trans ?_
  refine (tt_f rfl).trans ?_
  refine (tt_il rfl).trans ?_
  refine (tt_f rfl).trans ?_
  refine (tt_il rfl).trans ?_
  refine (tt_f rfl).trans ?_
  exact tt_f2 (p := fun x y => y ≤ x) inferInstance rfl
theorem B100_165 {l1 : Int64} {l3 : Int32} {l4 : Int64} {l6 : Int32} {l7 : Int32} {t1 : Int32} {t2 : Int64} {t3 : Int32} {v1 : Int32} {I2 : zI} {J3 : zJ} (hb : Nat.ble k.1 (mBu 100).1 = true ∧ Nat.ble k.2 (mBu 100).2 = true) (hq : zq S 97 [.long t2, .int t3, .int l7] I J (some (.int v1)) I2 J3) : zd S 100 165 [some (.ref 76), some (.long l1), none, some (.int l3), some (.long l4), none, some (.int l6), some (.int l7)] [.int t3, .long t2, .int t1, .ref 80] I J k = zd S 100 174 [some (.ref 76), some (.long l1), none, some (.int l3), some (.long l4), none, some (.int l6), some (.int l7)] [.int v1, .int t1, .ref 80] I2 J3 k := by
  refine (tt_f rfl).trans ?_
  refine (tt_il rfl).trans ?_
  refine (tt_f rfl).trans ?_
  refine tt_go.trans ?_
  exact tt_cs (vs := [.long t2, .int t3, .int l7]) rfl hb.1 hb.2 rfl rfl rfl rfl hq
theorem B100_170 {l1 : Int64} {l3 : Int32} {l4 : Int64} {l6 : Int32} {l7 : Int32} {t1 : Int32} {t2 : Int64} {t3 : Int32} {v1 : Int32} {I2 : zI} {J3 : zJ} (hb : Nat.ble k.1 (mBu 100).1 = true ∧ Nat.ble k.2 (mBu 100).2 = true) (hq : zq S 97 [.long t2, .int t3, .int 0] I J (some (.int v1)) I2 J3) : zd S 100 170 [some (.ref 76), some (.long l1), none, some (.int l3), some (.long l4), none, some (.int l6), some (.int l7)] [.int t3, .long t2, .int t1, .ref 80] I J k = zd S 100 174 [some (.ref 76), some (.long l1), none, some (.int l3), some (.long l4), none, some (.int l6), some (.int l7)] [.int v1, .int t1, .ref 80] I2 J3 k := by
  refine (tt_f rfl).trans ?_
  refine tt_c.trans ?_
  exact tt_cs (vs := [.long t2, .int t3, .int 0]) rfl hb.1 hb.2 rfl rfl rfl rfl hq
theorem B100_174 {l1 : Int64} {l3 : Int32} {l4 : Int64} {l6 : Int32} {l7 : Int32} {t1 : Int32} {t2 : Int32} (hi1 : zin t1 120 = true) : zd S 100 174 [some (.ref 76), some (.long l1), none, some (.int l3), some (.long l4), none, some (.int l6), some (.int l7)] [.int t2, .int t1, .ref 80] I J k = zd S 100 175 [some (.ref 76), some (.long l1), none, some (.int l3), some (.long l4), none, some (.int l6), some (.int l7)] [] (u2 I 80 t1.toNatClampNeg t2) J k := by
  refine (tt_f rfl).trans ?_
  exact tt_pa rfl rfl hi1
theorem B100_175 {l1 : Int64} {l3 : Int32} {l4 : Int64} {l6 : Int32} {l7 : Int32} {v1 : Int32} {I2 : zI} {J3 : zJ} (hb : Nat.ble k.1 (mBu 100).1 = true ∧ Nat.ble k.2 (mBu 100).2 = true) (hq : zq S 97 [.long l4, .int (l3 + 1), .int l7] I J (some (.int v1)) I2 J3) : zd S 100 175 [some (.ref 76), some (.long l1), none, some (.int l3), some (.long l4), none, some (.int l6), some (.int l7)] [] I J k = zd S 100 197 [some (.ref 76), some (.long l1), none, some (.int l3), some (.long l4), none, some (.int l6), some (.int l7)] [.int v1, .int ((7 * l6) + l7), .ref 81] I2 J3 k := by
  refine (tt_f rfl).trans ?_
  refine (tt_al rfl).trans ?_
  refine (tt_f rfl).trans ?_
  refine (tt_gr rfl rfl).trans ?_
  refine (tt_f rfl).trans ?_
  refine tt_c.trans ?_
  refine (tt_f rfl).trans ?_
  refine (tt_il rfl).trans ?_
  refine (tt_f rfl).trans ?_
  refine tt_bi.trans ?_
  refine (tt_f rfl).trans ?_
  refine (tt_il rfl).trans ?_
  refine (tt_f rfl).trans ?_
  refine tt_bi.trans ?_
  refine (tt_f rfl).trans ?_
  refine (tt_ll rfl).trans ?_
  refine (tt_f rfl).trans ?_
  refine (tt_il rfl).trans ?_
  refine (tt_f rfl).trans ?_
  refine tt_c.trans ?_
  refine (tt_f rfl).trans ?_
  refine tt_bi.trans ?_
  refine (tt_f rfl).trans ?_
  refine (tt_il rfl).trans ?_
  exact tt_cs (vs := [.long l4, .int (l3 + 1), .int l7]) rfl hb.1 hb.2 rfl rfl rfl rfl hq
theorem B100_197 {l1 : Int64} {l3 : Int32} {l4 : Int64} {l6 : Int32} {l7 : Int32} {t1 : Int32} {t2 : Int32} (hi1 : zin t1 140 = true) : zd S 100 197 [some (.ref 76), some (.long l1), none, some (.int l3), some (.long l4), none, some (.int l6), some (.int l7)] [.int t2, .int t1, .ref 81] I J k = zd S 100 198 [some (.ref 76), some (.long l1), none, some (.int l3), some (.long l4), none, some (.int l6), some (.int l7)] [] (u2 I 81 t1.toNatClampNeg t2) J k := by
  refine (tt_f rfl).trans ?_
  exact tt_pa rfl rfl hi1
theorem B100_198 {l1 : Int64} {l3 : Int32} {l4 : Int64} {l6 : Int32} {l7 : Int32}  : zd S 100 198 [some (.ref 76), some (.long l1), none, some (.int l3), some (.long l4), none, some (.int l6), some (.int l7)] [] I J k = zd S 100 129 [some (.ref 76), some (.long l1), none, some (.int l3), some (.long l4), none, some (.int l6), some (.int (l7 + 1))] [] I J k := by
  refine (tt_f rfl).trans ?_
  refine (tt_in rfl rfl).trans ?_
  refine (tt_f rfl).trans ?_
  refine tt_go.trans ?_
  rfl
theorem B100_204 {l1 : Int64} {l3 : Int32} {l4 : Int64} {l6 : Int32} {l7 : Int32}  : zd S 100 204 [some (.ref 76), some (.long l1), none, some (.int l3), some (.long l4), none, some (.int l6), some (.int l7)] [] I J k = some ((some (.int (I 76 5))), mk I J, k) := by
  refine (tt_f rfl).trans ?_
  refine (tt_al rfl).trans ?_
  refine (tt_f rfl).trans ?_
  refine (tt_gi rfl rfl).trans ?_
  exact tt_r1 rfl rfl
/-! 101: EditionGridModel.stands -/
theorem B101_0 {l1 : Int32} {l2 : Int32} {l3 : Int32} (hi1 : zin l1 20 = true) : zd S 101 0 [some (.ref 76), some (.int l1), some (.int l2), some (.int l3), none, none] [] I J k = if (l3 + 2) < (l2 + (I 79 l1.toNatClampNeg)) then zd S 101 18 [some (.ref 76), some (.int l1), some (.int l2), some (.int l3), none, none] [] I J k else zd S 101 14 [some (.ref 76), some (.int l1), some (.int l2), some (.int l3), none, none] [] I J k := by
  refine (tt_f rfl).trans ?_
  refine (tt_il rfl).trans ?_
  refine (tt_f rfl).trans ?_
  refine (tt_al rfl).trans ?_
  refine (tt_f rfl).trans ?_
  refine (tt_gr rfl rfl).trans ?_
  refine (tt_f rfl).trans ?_
  refine (tt_il rfl).trans ?_
  refine (tt_f rfl).trans ?_
  refine (tt_ga rfl rfl hi1).trans ?_
  refine (tt_f rfl).trans ?_
  refine tt_bi.trans ?_
  refine (tt_f rfl).trans ?_
  refine (tt_il rfl).trans ?_
  refine (tt_f rfl).trans ?_
  refine tt_c.trans ?_
  refine (tt_f rfl).trans ?_
  refine tt_bi.trans ?_
  refine (tt_f rfl).trans ?_
  exact tt_f2 (p := fun x y => y < x) inferInstance rfl
theorem B101_14 {l1 : Int32} {l2 : Int32} {l3 : Int32}  : zd S 101 14 [some (.ref 76), some (.int l1), some (.int l2), some (.int l3), none, none] [] I J k = zd S 101 24 [some (.ref 76), some (.int l1), some (.int l2), none, some (.int 1), some (.int 0)] [] I J k := by
  refine (tt_f rfl).trans ?_
  refine tt_c.trans ?_
  refine (tt_f rfl).trans ?_
  refine tt_go.trans ?_
  refine (tt_fk rfl rfl).trans ?_
  refine (tt_is rfl rfl).trans ?_
  refine (tt_f rfl).trans ?_
  refine tt_c.trans ?_
  refine (tt_f rfl).trans ?_
  refine (tt_is rfl rfl).trans ?_
  rfl
theorem B101_18 {l1 : Int32} {l2 : Int32} {l3 : Int32}  : zd S 101 18 [some (.ref 76), some (.int l1), some (.int l2), some (.int l3), none, none] [] I J k = zd S 101 24 [some (.ref 76), some (.int l1), some (.int l2), none, some (.int 0), some (.int 0)] [] I J k := by
  refine (tt_f rfl).trans ?_
  refine tt_c.trans ?_
  refine (tt_fk rfl rfl).trans ?_
  refine (tt_is rfl rfl).trans ?_
  refine (tt_f rfl).trans ?_
  refine tt_c.trans ?_
  refine (tt_f rfl).trans ?_
  refine (tt_is rfl rfl).trans ?_
  rfl
theorem B101_24 {l1 : Int32} {l2 : Int32} {l4 : Int32} {l5 : Int32} (hi1 : zin l1 20 = true) : zd S 101 24 [some (.ref 76), some (.int l1), some (.int l2), none, some (.int l4), some (.int l5)] [] I J k = if (I 79 l1.toNatClampNeg) ≤ l5 then zd S 101 77 [some (.ref 76), some (.int l1), some (.int l2), none, some (.int l4), some (.int l5)] [] I J k else zd S 101 35 [some (.ref 76), some (.int l1), some (.int l2), none, some (.int l4), some (.int l5)] [] I J k := by
  refine (tt_fk rfl rfl).trans ?_
  refine (tt_il rfl).trans ?_
  refine (tt_f rfl).trans ?_
  refine (tt_al rfl).trans ?_
  refine (tt_f rfl).trans ?_
  refine (tt_gr rfl rfl).trans ?_
  refine (tt_f rfl).trans ?_
  refine (tt_il rfl).trans ?_
  refine (tt_f rfl).trans ?_
  refine (tt_ga rfl rfl hi1).trans ?_
  refine (tt_f rfl).trans ?_
  exact tt_f2 (p := fun x y => y ≤ x) inferInstance rfl
theorem B101_35 {l1 : Int32} {l2 : Int32} {l4 : Int32} {l5 : Int32}  : zd S 101 35 [some (.ref 76), some (.int l1), some (.int l2), none, some (.int l4), some (.int l5)] [] I J k = if l4 = 0 then zd S 101 77 [some (.ref 76), some (.int l1), some (.int l2), none, some (.int l4), some (.int l5)] [] I J k else zd S 101 40 [some (.ref 76), some (.int l1), some (.int l2), none, some (.int l4), some (.int l5)] [] I J k := by
  refine (tt_f rfl).trans ?_
  refine (tt_il rfl).trans ?_
  refine (tt_f rfl).trans ?_
  exact tt_f1 (p := fun x => x = 0) inferInstance rfl
theorem B101_40 {l1 : Int32} {l2 : Int32} {l4 : Int32} {l5 : Int32} (hi1 : zin (l2 + l5) 14 = true) (hi2 : zin ((6 * l1) + l5) 120 = true) : zd S 101 40 [some (.ref 76), some (.int l1), some (.int l2), none, some (.int l4), some (.int l5)] [] I J k = if ¬ (I 82 (l2 + l5).toNatClampNeg) = (I 80 ((6 * l1) + l5).toNatClampNeg) then zd S 101 68 [some (.ref 76), some (.int l1), some (.int l2), none, some (.int l4), some (.int l5)] [] I J k else zd S 101 64 [some (.ref 76), some (.int l1), some (.int l2), none, some (.int l4), some (.int l5)] [] I J k := by
  refine (tt_f rfl).trans ?_
  refine (tt_al rfl).trans ?_
  refine (tt_f rfl).trans ?_
  refine (tt_gr rfl rfl).trans ?_
  refine (tt_f rfl).trans ?_
  refine (tt_il rfl).trans ?_
  refine (tt_f rfl).trans ?_
  refine (tt_il rfl).trans ?_
  refine (tt_f rfl).trans ?_
  refine tt_bi.trans ?_
  refine (tt_f rfl).trans ?_
  refine (tt_ga rfl rfl hi1).trans ?_
  refine (tt_f rfl).trans ?_
  refine (tt_al rfl).trans ?_
  refine (tt_f rfl).trans ?_
  refine (tt_gr rfl rfl).trans ?_
  refine (tt_f rfl).trans ?_
  refine tt_c.trans ?_
  refine (tt_f rfl).trans ?_
  refine (tt_il rfl).trans ?_
  refine (tt_f rfl).trans ?_
  refine tt_bi.trans ?_
  refine (tt_f rfl).trans ?_
  refine (tt_il rfl).trans ?_
  refine (tt_f rfl).trans ?_
  refine tt_bi.trans ?_
  refine (tt_f rfl).trans ?_
  refine (tt_ga rfl rfl hi2).trans ?_
  refine (tt_f rfl).trans ?_
  exact tt_f2 (p := fun x y => ¬ x = y) inferInstance rfl
theorem B101_64 {l1 : Int32} {l2 : Int32} {l4 : Int32} {l5 : Int32}  : zd S 101 64 [some (.ref 76), some (.int l1), some (.int l2), none, some (.int l4), some (.int l5)] [] I J k = zd S 101 24 [some (.ref 76), some (.int l1), some (.int l2), none, some (.int 1), some (.int (l5 + 1))] [] I J k := by
  refine (tt_f rfl).trans ?_
  refine tt_c.trans ?_
  refine (tt_f rfl).trans ?_
  refine tt_go.trans ?_
  refine (tt_fk rfl rfl).trans ?_
  refine (tt_is rfl rfl).trans ?_
  refine (tt_f rfl).trans ?_
  refine (tt_in rfl rfl).trans ?_
  refine (tt_f rfl).trans ?_
  refine tt_go.trans ?_
  rfl
theorem B101_68 {l1 : Int32} {l2 : Int32} {l4 : Int32} {l5 : Int32}  : zd S 101 68 [some (.ref 76), some (.int l1), some (.int l2), none, some (.int l4), some (.int l5)] [] I J k = zd S 101 24 [some (.ref 76), some (.int l1), some (.int l2), none, some (.int 0), some (.int (l5 + 1))] [] I J k := by
  refine (tt_f rfl).trans ?_
  refine tt_c.trans ?_
  refine (tt_fk rfl rfl).trans ?_
  refine (tt_is rfl rfl).trans ?_
  refine (tt_f rfl).trans ?_
  refine (tt_in rfl rfl).trans ?_
  refine (tt_f rfl).trans ?_
  refine tt_go.trans ?_
  rfl
theorem B101_77 {l1 : Int32} {l2 : Int32} {l4 : Int32} {l5 : Int32} (hz : zrt 2 (.int l4) = true) : zd S 101 77 [some (.ref 76), some (.int l1), some (.int l2), none, some (.int l4), some (.int l5)] [] I J k = some ((some (.int l4)), mk I J, k) := by
  refine (tt_fk rfl rfl).trans ?_
  refine (tt_il rfl).trans ?_
  exact tt_r1 rfl hz
/-! 102: EditionGridModel.value -/
theorem B102_0 {l1 : Int32} (hi1 : zin 0 14 = true) : zd S 102 0 [some (.ref 76), some (.int l1), none, none, none, none, none] [] I J k = zd S 102 8 [some (.ref 76), some (.int l1), none, none, none, none, none] [] (u2 I 82 (0 : Int32).toNatClampNeg 46) J k := by
  refine (tt_f rfl).trans ?_
  refine (tt_al rfl).trans ?_
  refine (tt_f rfl).trans ?_
  refine (tt_gr rfl rfl).trans ?_
  refine (tt_f rfl).trans ?_
  refine tt_c.trans ?_
  refine (tt_f rfl).trans ?_
  refine tt_c.trans ?_
  refine (tt_f rfl).trans ?_
  exact tt_pa rfl rfl hi1
theorem B102_8 {l1 : Int32} (hi1 : zin (l1 + 1) 14 = true) : zd S 102 8 [some (.ref 76), some (.int l1), none, none, none, none, none] [] I J k = zd S 102 18 [some (.ref 76), some (.int l1), none, none, none, none, none] [] (u2 I 82 (l1 + 1).toNatClampNeg 46) J k := by
  refine (tt_f rfl).trans ?_
  refine (tt_al rfl).trans ?_
  refine (tt_f rfl).trans ?_
  refine (tt_gr rfl rfl).trans ?_
  refine (tt_f rfl).trans ?_
  refine (tt_il rfl).trans ?_
  refine (tt_f rfl).trans ?_
  refine tt_c.trans ?_
  refine (tt_f rfl).trans ?_
  refine tt_bi.trans ?_
  refine (tt_f rfl).trans ?_
  refine tt_c.trans ?_
  refine (tt_f rfl).trans ?_
  exact tt_pa rfl rfl hi1
theorem B102_18 {l1 : Int32}  : zd S 102 18 [some (.ref 76), some (.int l1), none, none, none, none, none] [] I J k = zd S 102 20 [some (.ref 76), some (.int l1), some (.int 0), none, none, none, none] [] I J k := by
  refine (tt_f rfl).trans ?_
  refine tt_c.trans ?_
  refine (tt_f rfl).trans ?_
  refine (tt_is rfl rfl).trans ?_
  rfl
theorem B102_20 {l1 : Int32} {l2 : Int32}  : zd S 102 20 [some (.ref 76), some (.int l1), some (.int l2), none, none, none, none] [] I J k = if 15 ≤ l2 then zd S 102 39 [some (.ref 76), some (.int l1), some (.int l2), none, none, none, none] [] I J k else zd S 102 26 [some (.ref 76), some (.int l1), some (.int l2), none, none, none, none] [] I J k := by
  refine (tt_fk rfl rfl).trans ?_
  refine (tt_il rfl).trans ?_
  refine (tt_f rfl).trans ?_
  refine tt_c.trans ?_
  refine (tt_f rfl).trans ?_
  exact tt_f2 (p := fun x y => y ≤ x) inferInstance rfl
theorem B102_26 {l1 : Int32} {l2 : Int32} (hi1 : zin l2 15 = true) : zd S 102 26 [some (.ref 76), some (.int l1), some (.int l2), none, none, none, none] [] I J k = zd S 102 33 [some (.ref 76), some (.int l1), some (.int l2), none, none, none, none] [] (u2 I 83 l2.toNatClampNeg 0) J k := by
  refine (tt_f rfl).trans ?_
  refine (tt_al rfl).trans ?_
  refine (tt_f rfl).trans ?_
  refine (tt_gr rfl rfl).trans ?_
  refine (tt_f rfl).trans ?_
  refine (tt_il rfl).trans ?_
  refine (tt_f rfl).trans ?_
  refine tt_c.trans ?_
  refine (tt_f rfl).trans ?_
  exact tt_pa rfl rfl hi1
theorem B102_33 {l1 : Int32} {l2 : Int32}  : zd S 102 33 [some (.ref 76), some (.int l1), some (.int l2), none, none, none, none] [] I J k = zd S 102 20 [some (.ref 76), some (.int l1), some (.int (l2 + 1)), none, none, none, none] [] I J k := by
  refine (tt_f rfl).trans ?_
  refine (tt_in rfl rfl).trans ?_
  refine (tt_f rfl).trans ?_
  refine tt_go.trans ?_
  rfl
theorem B102_39 {l1 : Int32} {l2 : Int32}  : zd S 102 39 [some (.ref 76), some (.int l1), some (.int l2), none, none, none, none] [] I J k = zd S 102 41 [some (.ref 76), some (.int l1), some (.int 0), none, none, none, none] [] I J k := by
  refine (tt_f rfl).trans ?_
  refine tt_c.trans ?_
  refine (tt_f rfl).trans ?_
  refine (tt_is rfl rfl).trans ?_
  rfl
theorem B102_41 {l1 : Int32} {l2 : Int32} {o3 : Option Value}  : zd S 102 41 [some (.ref 76), some (.int l1), some (.int l2), o3, none, none, none] [] I J k = if (I 76 5) ≤ l2 then zd S 102 155 [some (.ref 76), some (.int l1), some (.int l2), none, none, none, none] [] I J k else zd S 102 49 [some (.ref 76), some (.int l1), some (.int l2), none, none, none, none] [] I J k := by
  refine (tt_fk rfl rfl).trans ?_
  refine (tt_il rfl).trans ?_
  refine (tt_f rfl).trans ?_
  refine (tt_al rfl).trans ?_
  refine (tt_f rfl).trans ?_
  refine (tt_gi rfl rfl).trans ?_
  refine (tt_f rfl).trans ?_
  exact tt_f2 (p := fun x y => y ≤ x) inferInstance rfl
theorem B102_49 {l1 : Int32} {l2 : Int32}  : zd S 102 49 [some (.ref 76), some (.int l1), some (.int l2), none, none, none, none] [] I J k = zd S 102 51 [some (.ref 76), some (.int l1), some (.int l2), some (.int 0), none, none, none] [] I J k := by
  refine (tt_f rfl).trans ?_
  refine tt_c.trans ?_
  refine (tt_f rfl).trans ?_
  refine (tt_is rfl rfl).trans ?_
  rfl
theorem B102_51 {l1 : Int32} {l2 : Int32} {l3 : Int32}  : zd S 102 51 [some (.ref 76), some (.int l1), some (.int l2), some (.int l3), none, none, none] [] I J k = if (l1 + 2) ≤ l3 then zd S 102 149 [some (.ref 76), some (.int l1), some (.int l2), some (.int l3), none, none, none] [] I J k else zd S 102 58 [some (.ref 76), some (.int l1), some (.int l2), some (.int l3), none, none, none] [] I J k := by
  refine (tt_fk rfl rfl).trans ?_
  refine (tt_il rfl).trans ?_
  refine (tt_f rfl).trans ?_
  refine (tt_il rfl).trans ?_
  refine (tt_f rfl).trans ?_
  refine tt_c.trans ?_
  refine (tt_f rfl).trans ?_
  refine tt_bi.trans ?_
  refine (tt_f rfl).trans ?_
  exact tt_f2 (p := fun x y => y ≤ x) inferInstance rfl
theorem B102_58 {l1 : Int32} {l2 : Int32} {l3 : Int32} {v1 : Int32} {I2 : zI} {J3 : zJ} (hb : Nat.ble k.1 (mBu 102).1 = true ∧ Nat.ble k.2 (mBu 102).2 = true) (hq : zq S 101 [.ref 76, .int l2, .int l3, .int l1] I J (some (.int v1)) I2 J3) : zd S 102 58 [some (.ref 76), some (.int l1), some (.int l2), some (.int l3), none, none, none] [] I J k = zd S 102 65 [some (.ref 76), some (.int l1), some (.int l2), some (.int l3), none, none, none] [.int v1] I2 J3 k := by
  refine (tt_f rfl).trans ?_
  refine (tt_al rfl).trans ?_
  refine (tt_f rfl).trans ?_
  refine (tt_il rfl).trans ?_
  refine (tt_f rfl).trans ?_
  refine (tt_il rfl).trans ?_
  refine (tt_f rfl).trans ?_
  refine (tt_il rfl).trans ?_
  exact tt_cv (As := [.int l2, .int l3, .int l1]) rfl hb.1 hb.2 rfl rfl rfl rfl rfl hq
theorem B102_65 {l1 : Int32} {l2 : Int32} {l3 : Int32} {t0 : Int32}  : zd S 102 65 [some (.ref 76), some (.int l1), some (.int l2), some (.int l3), none, none, none] [.int t0] I J k = zd S 102 70 [some (.ref 76), some (.int l1), some (.int l2), some (.int l3), some (.int t0), some (.int 0), none] [] I J k := by
  refine (tt_f rfl).trans ?_
  refine (tt_is rfl rfl).trans ?_
  refine (tt_f rfl).trans ?_
  refine tt_c.trans ?_
  refine (tt_f rfl).trans ?_
  refine (tt_is rfl rfl).trans ?_
  rfl
theorem B102_70 {l1 : Int32} {l2 : Int32} {l3 : Int32} {l4 : Int32} {l5 : Int32} (hi1 : zin l2 20 = true) : zd S 102 70 [some (.ref 76), some (.int l1), some (.int l2), some (.int l3), some (.int l4), some (.int l5), none] [] I J k = if (I 79 l2.toNatClampNeg) < l5 then zd S 102 143 [some (.ref 76), some (.int l1), some (.int l2), some (.int l3), some (.int l4), some (.int l5), none] [] I J k else zd S 102 81 [some (.ref 76), some (.int l1), some (.int l2), some (.int l3), some (.int l4), some (.int l5), none] [] I J k := by
  refine (tt_fk rfl rfl).trans ?_
  refine (tt_il rfl).trans ?_
  refine (tt_f rfl).trans ?_
  refine (tt_al rfl).trans ?_
  refine (tt_f rfl).trans ?_
  refine (tt_gr rfl rfl).trans ?_
  refine (tt_f rfl).trans ?_
  refine (tt_il rfl).trans ?_
  refine (tt_f rfl).trans ?_
  refine (tt_ga rfl rfl hi1).trans ?_
  refine (tt_f rfl).trans ?_
  exact tt_f2 (p := fun x y => y < x) inferInstance rfl
theorem B102_81 {l1 : Int32} {l2 : Int32} {l3 : Int32} {l4 : Int32} {l5 : Int32}  : zd S 102 81 [some (.ref 76), some (.int l1), some (.int l2), some (.int l3), some (.int l4), some (.int l5), none] [] I J k = if l4 = 0 then zd S 102 143 [some (.ref 76), some (.int l1), some (.int l2), some (.int l3), some (.int l4), some (.int l5), none] [] I J k else zd S 102 86 [some (.ref 76), some (.int l1), some (.int l2), some (.int l3), some (.int l4), some (.int l5), none] [] I J k := by
  refine (tt_f rfl).trans ?_
  refine (tt_il rfl).trans ?_
  refine (tt_f rfl).trans ?_
  exact tt_f1 (p := fun x => x = 0) inferInstance rfl
theorem B102_86 {l1 : Int32} {l2 : Int32} {l3 : Int32} {l4 : Int32} {l5 : Int32} (hi1 : zin ((7 * l2) + l5) 140 = true) (hi2 : zin (l3 + l5) 15 = true) : zd S 102 86 [some (.ref 76), some (.int l1), some (.int l2), some (.int l3), some (.int l4), some (.int l5), none] [] I J k = if (I 81 ((7 * l2) + l5).toNatClampNeg) ≤ (I 83 (l3 + l5).toNatClampNeg) then zd S 102 127 [some (.ref 76), some (.int l1), some (.int l2), some (.int l3), some (.int l4), some (.int l5), some (.int (I 81 ((7 * l2) + l5).toNatClampNeg))] [.int (l3 + l5), .ref 83] I J k else zd S 102 122 [some (.ref 76), some (.int l1), some (.int l2), some (.int l3), some (.int l4), some (.int l5), some (.int (I 81 ((7 * l2) + l5).toNatClampNeg))] [.int (l3 + l5), .ref 83] I J k := by
  refine (tt_f rfl).trans ?_
  refine (tt_al rfl).trans ?_
  refine (tt_f rfl).trans ?_
  refine (tt_gr rfl rfl).trans ?_
  refine (tt_f rfl).trans ?_
  refine tt_c.trans ?_
  refine (tt_f rfl).trans ?_
  refine (tt_il rfl).trans ?_
  refine (tt_f rfl).trans ?_
  refine tt_bi.trans ?_
  refine (tt_f rfl).trans ?_
  refine (tt_il rfl).trans ?_
  refine (tt_f rfl).trans ?_
  refine tt_bi.trans ?_
  refine (tt_f rfl).trans ?_
  refine (tt_ga rfl rfl hi1).trans ?_
  refine (tt_f rfl).trans ?_
  refine (tt_is rfl rfl).trans ?_
  refine (tt_f rfl).trans ?_
  refine (tt_al rfl).trans ?_
  refine (tt_f rfl).trans ?_
  refine (tt_gr rfl rfl).trans ?_
  refine (tt_f rfl).trans ?_
  refine (tt_il rfl).trans ?_
  refine (tt_f rfl).trans ?_
  refine (tt_il rfl).trans ?_
  refine (tt_f rfl).trans ?_
  refine tt_bi.trans ?_
  refine (tt_f rfl).trans ?_
  refine (tt_il rfl).trans ?_
  refine (tt_f rfl).trans ?_
  refine (tt_al rfl).trans ?_
  refine (tt_f rfl).trans ?_
  refine (tt_gr rfl rfl).trans ?_
  refine (tt_f rfl).trans ?_
  refine (tt_il rfl).trans ?_
  refine (tt_f rfl).trans ?_
  refine (tt_il rfl).trans ?_
  refine (tt_f rfl).trans ?_
  refine tt_bi.trans ?_
  refine (tt_f rfl).trans ?_
  refine (tt_ga rfl rfl hi2).trans ?_
  refine (tt_f rfl).trans ?_
  exact tt_f2 (p := fun x y => x ≤ y) inferInstance rfl
theorem B102_122 {l1 : Int32} {l2 : Int32} {l3 : Int32} {l4 : Int32} {l5 : Int32} {l6 : Int32} {t1 : Int32} (hi1 : zin t1 15 = true) : zd S 102 122 [some (.ref 76), some (.int l1), some (.int l2), some (.int l3), some (.int l4), some (.int l5), some (.int l6)] [.int t1, .ref 83] I J k = zd S 102 137 [some (.ref 76), some (.int l1), some (.int l2), some (.int l3), some (.int l4), some (.int l5), none] [] (u2 I 83 t1.toNatClampNeg l6) J k := by
  refine (tt_f rfl).trans ?_
  refine (tt_il rfl).trans ?_
  refine (tt_f rfl).trans ?_
  refine tt_go.trans ?_
  refine (tt_fk rfl rfl).trans ?_
  exact tt_pa rfl rfl hi1
theorem B102_127 {l1 : Int32} {l2 : Int32} {l3 : Int32} {l4 : Int32} {l5 : Int32} {l6 : Int32} {t1 : Int32} (hi1 : zin (l3 + l5) 15 = true) (hi2 : zin t1 15 = true) : zd S 102 127 [some (.ref 76), some (.int l1), some (.int l2), some (.int l3), some (.int l4), some (.int l5), some (.int l6)] [.int t1, .ref 83] I J k = zd S 102 137 [some (.ref 76), some (.int l1), some (.int l2), some (.int l3), some (.int l4), some (.int l5), none] [] (u2 I 83 t1.toNatClampNeg (I 83 (l3 + l5).toNatClampNeg)) J k := by
  refine (tt_f rfl).trans ?_
  refine (tt_al rfl).trans ?_
  refine (tt_f rfl).trans ?_
  refine (tt_gr rfl rfl).trans ?_
  refine (tt_f rfl).trans ?_
  refine (tt_il rfl).trans ?_
  refine (tt_f rfl).trans ?_
  refine (tt_il rfl).trans ?_
  refine (tt_f rfl).trans ?_
  refine tt_bi.trans ?_
  refine (tt_f rfl).trans ?_
  refine (tt_ga rfl rfl hi1).trans ?_
  refine (tt_fk rfl rfl).trans ?_
  exact tt_pa rfl rfl hi2
theorem B102_137 {l1 : Int32} {l2 : Int32} {l3 : Int32} {l4 : Int32} {l5 : Int32}  : zd S 102 137 [some (.ref 76), some (.int l1), some (.int l2), some (.int l3), some (.int l4), some (.int l5), none] [] I J k = zd S 102 70 [some (.ref 76), some (.int l1), some (.int l2), some (.int l3), some (.int l4), some (.int (l5 + 1)), none] [] I J k := by
  refine (tt_f rfl).trans ?_
  refine (tt_in rfl rfl).trans ?_
  refine (tt_f rfl).trans ?_
  refine tt_go.trans ?_
  rfl
theorem B102_143 {l1 : Int32} {l2 : Int32} {l3 : Int32} {l4 : Int32} {l5 : Int32}  : zd S 102 143 [some (.ref 76), some (.int l1), some (.int l2), some (.int l3), some (.int l4), some (.int l5), none] [] I J k = zd S 102 51 [some (.ref 76), some (.int l1), some (.int l2), some (.int (l3 + 1)), none, none, none] [] I J k := by
  refine (tt_fk rfl rfl).trans ?_
  refine (tt_in rfl rfl).trans ?_
  refine (tt_f rfl).trans ?_
  refine tt_go.trans ?_
  rfl
theorem B102_149 {l1 : Int32} {l2 : Int32} {l3 : Int32}  : zd S 102 149 [some (.ref 76), some (.int l1), some (.int l2), some (.int l3), none, none, none] [] I J k = zd S 102 41 [some (.ref 76), some (.int l1), some (.int (l2 + 1)), some (.int l3), none, none, none] [] I J k := by
  refine (tt_f rfl).trans ?_
  refine (tt_in rfl rfl).trans ?_
  refine (tt_f rfl).trans ?_
  refine tt_go.trans ?_
  rfl
theorem B102_155 {l1 : Int32} {l2 : Int32}  : zd S 102 155 [some (.ref 76), some (.int l1), some (.int l2), none, none, none, none] [] I J k = some (none, mk I J, k) := by
  exact tt_rv rfl
/-! 103: EditionGridModel.isCut -/
theorem B103_0 {l1 : Int32} {l2 : Int32}  : zd S 103 0 [some (.ref 76), some (.int l1), some (.int l2)] [] I J k = if l1 < 2 then zd S 103 30 [some (.ref 76), some (.int l1), some (.int l2)] [] I J k else zd S 103 5 [some (.ref 76), some (.int l1), some (.int l2)] [] I J k := by
  refine (tt_f rfl).trans ?_
  refine (tt_il rfl).trans ?_
  refine (tt_f rfl).trans ?_
  refine tt_c.trans ?_
  refine (tt_f rfl).trans ?_
  exact tt_f2 (p := fun x y => x < y) inferInstance rfl
theorem B103_5 {l1 : Int32} {l2 : Int32}  : zd S 103 5 [some (.ref 76), some (.int l1), some (.int l2)] [] I J k = if (l2 - l1) < 2 then zd S 103 30 [some (.ref 76), some (.int l1), some (.int l2)] [] I J k else zd S 103 12 [some (.ref 76), some (.int l1), some (.int l2)] [] I J k := by
  refine (tt_f rfl).trans ?_
  refine (tt_il rfl).trans ?_
  refine (tt_f rfl).trans ?_
  refine (tt_il rfl).trans ?_
  refine (tt_f rfl).trans ?_
  refine tt_bi.trans ?_
  refine (tt_f rfl).trans ?_
  refine tt_c.trans ?_
  refine (tt_f rfl).trans ?_
  exact tt_f2 (p := fun x y => x < y) inferInstance rfl
theorem B103_12 {l1 : Int32} {l2 : Int32} (hi1 : zin (l1 + 1) 15 = true) : zd S 103 12 [some (.ref 76), some (.int l1), some (.int l2)] [] I J k = if ¬ ((I 83 (l1 + 1).toNatClampNeg) - (I 83 (l1 + 1).toNatClampNeg) / 2 * 2) = 1 then zd S 103 30 [some (.ref 76), some (.int l1), some (.int l2)] [] I J k else zd S 103 26 [some (.ref 76), some (.int l1), some (.int l2)] [] I J k := by
  refine (tt_f rfl).trans ?_
  refine (tt_al rfl).trans ?_
  refine (tt_f rfl).trans ?_
  refine (tt_gr rfl rfl).trans ?_
  refine (tt_f rfl).trans ?_
  refine (tt_il rfl).trans ?_
  refine (tt_f rfl).trans ?_
  refine tt_c.trans ?_
  refine (tt_f rfl).trans ?_
  refine tt_bi.trans ?_
  refine (tt_f rfl).trans ?_
  refine (tt_ga rfl rfl hi1).trans ?_
  refine (tt_f rfl).trans ?_
  refine tt_c.trans ?_
  refine (tt_f rfl).trans ?_
  refine (tt_bz (by decide)).trans ?_
  refine (tt_f rfl).trans ?_
  refine tt_c.trans ?_
  refine (tt_f rfl).trans ?_
  exact tt_f2 (p := fun x y => ¬ x = y) inferInstance rfl
theorem B103_26 {l1 : Int32} {l2 : Int32} (hz : zrt 2 (.int 1) = true) : zd S 103 26 [some (.ref 76), some (.int l1), some (.int l2)] [] I J k = some ((some (.int 1)), mk I J, k) := by
  refine (tt_f rfl).trans ?_
  refine tt_c.trans ?_
  refine (tt_f rfl).trans ?_
  refine tt_go.trans ?_
  exact tt_r1 rfl hz
theorem B103_30 {l1 : Int32} {l2 : Int32} (hz : zrt 2 (.int 0) = true) : zd S 103 30 [some (.ref 76), some (.int l1), some (.int l2)] [] I J k = some ((some (.int 0)), mk I J, k) := by
  refine (tt_fk rfl rfl).trans ?_
  refine tt_c.trans ?_
  exact tt_r1 rfl hz
/-! 104: EditionGridModel.cuts -/
theorem B104_0 {l1 : Int64} {l3 : Int32}  : zd S 104 0 [some (.ref 76), some (.long l1), none, some (.int l3), none, none] [] I J k = if l3 < 1 then zd S 104 11 [some (.ref 76), some (.long l1), none, some (.int l3), none, none] [] I J k else zd S 104 5 [some (.ref 76), some (.long l1), none, some (.int l3), none, none] [] I J k := by
  refine (tt_f rfl).trans ?_
  refine (tt_il rfl).trans ?_
  refine (tt_f rfl).trans ?_
  refine tt_c.trans ?_
  refine (tt_f rfl).trans ?_
  exact tt_f2 (p := fun x y => x < y) inferInstance rfl
theorem B104_5 {l1 : Int64} {l3 : Int32}  : zd S 104 5 [some (.ref 76), some (.long l1), none, some (.int l3), none, none] [] I J k = if l3 ≤ 8 then zd S 104 13 [some (.ref 76), some (.long l1), none, some (.int l3), none, none] [] I J k else zd S 104 11 [some (.ref 76), some (.long l1), none, some (.int l3), none, none] [] I J k := by
  refine (tt_f rfl).trans ?_
  refine (tt_il rfl).trans ?_
  refine (tt_f rfl).trans ?_
  refine tt_c.trans ?_
  refine (tt_f rfl).trans ?_
  exact tt_f2 (p := fun x y => x ≤ y) inferInstance rfl
theorem B104_11 {l1 : Int64} {l3 : Int32}  : zd S 104 11 [some (.ref 76), some (.long l1), none, some (.int l3), none, none] [] I J k = some ((some (.int (-1))), mk I J, k) := by
  refine (tt_fk rfl rfl).trans ?_
  refine tt_c.trans ?_
  exact tt_r1 rfl rfl
theorem B104_13 {l1 : Int64} {l3 : Int32}  : zd S 104 13 [some (.ref 76), some (.long l1), none, some (.int l3), none, none] [] I J k = zd S 104 16 [some (.ref 76), some (.long l1), none, some (.int l3), some (.int 0), none] [] I J k := by
  refine (tt_f rfl).trans ?_
  refine tt_c.trans ?_
  refine (tt_f rfl).trans ?_
  refine (tt_is rfl rfl).trans ?_
  rfl
theorem B104_16 {l1 : Int64} {l3 : Int32} {l4 : Int32}  : zd S 104 16 [some (.ref 76), some (.long l1), none, some (.int l3), some (.int l4), none] [] I J k = if l3 ≤ l4 then zd S 104 43 [some (.ref 76), some (.long l1), none, some (.int l3), some (.int l4), none] [] I J k else zd S 104 22 [some (.ref 76), some (.long l1), none, some (.int l3), some (.int l4), none] [] I J k := by
  refine (tt_fk rfl rfl).trans ?_
  refine (tt_il rfl).trans ?_
  refine (tt_f rfl).trans ?_
  refine (tt_il rfl).trans ?_
  refine (tt_f rfl).trans ?_
  exact tt_f2 (p := fun x y => y ≤ x) inferInstance rfl
theorem B104_22 {l1 : Int64} {l3 : Int32} {l4 : Int32} {v1 : Int32} {I2 : zI} {J3 : zJ} (hb : Nat.ble k.1 (mBu 104).1 = true ∧ Nat.ble k.2 (mBu 104).2 = true) (hq : zq S 97 [.long l1, .int l3, .int l4] I J (some (.int v1)) I2 J3) : zd S 104 22 [some (.ref 76), some (.long l1), none, some (.int l3), some (.int l4), none] [] I J k = zd S 104 29 [some (.ref 76), some (.long l1), none, some (.int l3), some (.int l4), none] [.int v1] I2 J3 k := by
  refine (tt_f rfl).trans ?_
  refine (tt_ll rfl).trans ?_
  refine (tt_f rfl).trans ?_
  refine (tt_il rfl).trans ?_
  refine (tt_f rfl).trans ?_
  refine (tt_il rfl).trans ?_
  exact tt_cs (vs := [.long l1, .int l3, .int l4]) rfl hb.1 hb.2 rfl rfl rfl rfl hq
theorem B104_29 {l1 : Int64} {l3 : Int32} {l4 : Int32} {t0 : Int32} {v1 : Int32} {I2 : zI} {J3 : zJ} (hb : Nat.ble k.1 (mBu 104).1 = true ∧ Nat.ble k.2 (mBu 104).2 = true) (hq : zq S 95 [.int t0] I J (some (.int v1)) I2 J3) : zd S 104 29 [some (.ref 76), some (.long l1), none, some (.int l3), some (.int l4), none] [.int t0] I J k = zd S 104 32 [some (.ref 76), some (.long l1), none, some (.int l3), some (.int l4), none] [.int v1] I2 J3 k := by
  exact tt_cs (vs := [.int t0]) rfl hb.1 hb.2 rfl rfl rfl rfl hq
theorem B104_32 {l1 : Int64} {l3 : Int32} {l4 : Int32} {t0 : Int32}  : zd S 104 32 [some (.ref 76), some (.long l1), none, some (.int l3), some (.int l4), none] [.int t0] I J k = if ¬ t0 = 0 then zd S 104 37 [some (.ref 76), some (.long l1), none, some (.int l3), some (.int l4), none] [] I J k else zd S 104 35 [some (.ref 76), some (.long l1), none, some (.int l3), some (.int l4), none] [] I J k := by
  refine (tt_f rfl).trans ?_
  exact tt_f1 (p := fun x => ¬ x = 0) inferInstance rfl
theorem B104_35 {l1 : Int64} {l3 : Int32} {l4 : Int32}  : zd S 104 35 [some (.ref 76), some (.long l1), none, some (.int l3), some (.int l4), none] [] I J k = some ((some (.int (-1))), mk I J, k) := by
  refine (tt_f rfl).trans ?_
  refine tt_c.trans ?_
  exact tt_r1 rfl rfl
theorem B104_37 {l1 : Int64} {l3 : Int32} {l4 : Int32}  : zd S 104 37 [some (.ref 76), some (.long l1), none, some (.int l3), some (.int l4), none] [] I J k = zd S 104 16 [some (.ref 76), some (.long l1), none, some (.int l3), some (.int (l4 + 1)), none] [] I J k := by
  refine (tt_f rfl).trans ?_
  refine (tt_in rfl rfl).trans ?_
  refine (tt_f rfl).trans ?_
  refine tt_go.trans ?_
  rfl
theorem B104_43 {l1 : Int64} {l3 : Int32} {l4 : Int32}  : zd S 104 43 [some (.ref 76), some (.long l1), none, some (.int l3), some (.int l4), none] [] I J k = zd S 104 46 [some (.ref 76), some (.long l1), none, some (.int l3), some (.int 0), none] [] I J k := by
  refine (tt_f rfl).trans ?_
  refine tt_c.trans ?_
  refine (tt_f rfl).trans ?_
  refine (tt_is rfl rfl).trans ?_
  rfl
theorem B104_46 {l1 : Int64} {l3 : Int32} {l4 : Int32}  : zd S 104 46 [some (.ref 76), some (.long l1), none, some (.int l3), some (.int l4), none] [] I J k = if l3 ≤ l4 then zd S 104 74 [some (.ref 76), some (.long l1), none, some (.int l3), some (.int l4), none] [] I J k else zd S 104 52 [some (.ref 76), some (.long l1), none, some (.int l3), some (.int l4), none] [] I J k := by
  refine (tt_fk rfl rfl).trans ?_
  refine (tt_il rfl).trans ?_
  refine (tt_f rfl).trans ?_
  refine (tt_il rfl).trans ?_
  refine (tt_f rfl).trans ?_
  exact tt_f2 (p := fun x y => y ≤ x) inferInstance rfl
theorem B104_52 {l1 : Int64} {l3 : Int32} {l4 : Int32} {v1 : Int32} {I2 : zI} {J3 : zJ} (hb : Nat.ble k.1 (mBu 104).1 = true ∧ Nat.ble k.2 (mBu 104).2 = true) (hq : zq S 97 [.long l1, .int l3, .int l4] I J (some (.int v1)) I2 J3) : zd S 104 52 [some (.ref 76), some (.long l1), none, some (.int l3), some (.int l4), none] [] I J k = zd S 104 67 [some (.ref 76), some (.long l1), none, some (.int l3), some (.int l4), none] [.int v1, .int (1 + l4), .ref 82] I2 J3 k := by
  refine (tt_f rfl).trans ?_
  refine (tt_al rfl).trans ?_
  refine (tt_f rfl).trans ?_
  refine (tt_gr rfl rfl).trans ?_
  refine (tt_f rfl).trans ?_
  refine tt_c.trans ?_
  refine (tt_f rfl).trans ?_
  refine (tt_il rfl).trans ?_
  refine (tt_f rfl).trans ?_
  refine tt_bi.trans ?_
  refine (tt_f rfl).trans ?_
  refine (tt_ll rfl).trans ?_
  refine (tt_f rfl).trans ?_
  refine (tt_il rfl).trans ?_
  refine (tt_f rfl).trans ?_
  refine (tt_il rfl).trans ?_
  exact tt_cs (vs := [.long l1, .int l3, .int l4]) rfl hb.1 hb.2 rfl rfl rfl rfl hq
theorem B104_67 {l1 : Int64} {l3 : Int32} {l4 : Int32} {t1 : Int32} {t2 : Int32} (hi1 : zin t1 14 = true) : zd S 104 67 [some (.ref 76), some (.long l1), none, some (.int l3), some (.int l4), none] [.int t2, .int t1, .ref 82] I J k = zd S 104 68 [some (.ref 76), some (.long l1), none, some (.int l3), some (.int l4), none] [] (u2 I 82 t1.toNatClampNeg t2) J k := by
  refine (tt_f rfl).trans ?_
  exact tt_pa rfl rfl hi1
theorem B104_68 {l1 : Int64} {l3 : Int32} {l4 : Int32}  : zd S 104 68 [some (.ref 76), some (.long l1), none, some (.int l3), some (.int l4), none] [] I J k = zd S 104 46 [some (.ref 76), some (.long l1), none, some (.int l3), some (.int (l4 + 1)), none] [] I J k := by
  refine (tt_f rfl).trans ?_
  refine (tt_in rfl rfl).trans ?_
  refine (tt_f rfl).trans ?_
  refine tt_go.trans ?_
  rfl
theorem B104_74 {l1 : Int64} {l3 : Int32} {l4 : Int32} {I1 : zI} {J2 : zJ} (hb : Nat.ble k.1 (mBu 104).1 = true ∧ Nat.ble k.2 (mBu 104).2 = true) (hq : zq S 102 [.ref 76, .int l3] I J none I1 J2) : zd S 104 74 [some (.ref 76), some (.long l1), none, some (.int l3), some (.int l4), none] [] I J k = zd S 104 79 [some (.ref 76), some (.long l1), none, some (.int l3), some (.int l4), none] [] I1 J2 k := by
  refine (tt_f rfl).trans ?_
  refine (tt_al rfl).trans ?_
  refine (tt_f rfl).trans ?_
  refine (tt_il rfl).trans ?_
  exact tt_cv (As := [.int l3]) rfl hb.1 hb.2 rfl rfl rfl rfl rfl hq
theorem B104_79 {l1 : Int64} {l3 : Int32} {l4 : Int32}  : zd S 104 79 [some (.ref 76), some (.long l1), none, some (.int l3), some (.int l4), none] [] I J k = zd S 104 85 [some (.ref 76), some (.long l1), none, some (.int l3), some (.int 0), some (.int 1)] [] I J k := by
  refine (tt_f rfl).trans ?_
  refine tt_c.trans ?_
  refine (tt_f rfl).trans ?_
  refine (tt_is rfl rfl).trans ?_
  refine (tt_f rfl).trans ?_
  refine tt_c.trans ?_
  refine (tt_f rfl).trans ?_
  refine (tt_is rfl rfl).trans ?_
  rfl
theorem B104_85 {o1 : Option Value} {l3 : Int32} {l4 : Int32} {l5 : Int32}  : zd S 104 85 [some (.ref 76), o1, none, some (.int l3), some (.int l4), some (.int l5)] [] I J k = if l3 ≤ l5 then zd S 104 121 [some (.ref 76), none, none, some (.int l3), some (.int l4), some (.int l5)] [] I J k else zd S 104 91 [some (.ref 76), none, none, some (.int l3), some (.int l4), some (.int l5)] [] I J k := by
  refine (tt_fk rfl rfl).trans ?_
  refine (tt_il rfl).trans ?_
  refine (tt_f rfl).trans ?_
  refine (tt_il rfl).trans ?_
  refine (tt_f rfl).trans ?_
  exact tt_f2 (p := fun x y => y ≤ x) inferInstance rfl
theorem B104_91 {l3 : Int32} {l4 : Int32} {l5 : Int32} {v1 : Int32} {I2 : zI} {J3 : zJ} (hb : Nat.ble k.1 (mBu 104).1 = true ∧ Nat.ble k.2 (mBu 104).2 = true) (hq : zq S 103 [.ref 76, .int l5, .int l3] I J (some (.int v1)) I2 J3) : zd S 104 91 [some (.ref 76), none, none, some (.int l3), some (.int l4), some (.int l5)] [] I J k = zd S 104 98 [some (.ref 76), none, none, some (.int l3), some (.int l4), some (.int l5)] [.int v1] I2 J3 k := by
  refine (tt_f rfl).trans ?_
  refine (tt_al rfl).trans ?_
  refine (tt_f rfl).trans ?_
  refine (tt_il rfl).trans ?_
  refine (tt_f rfl).trans ?_
  refine (tt_il rfl).trans ?_
  exact tt_cv (As := [.int l5, .int l3]) rfl hb.1 hb.2 rfl rfl rfl rfl rfl hq
theorem B104_98 {l3 : Int32} {l4 : Int32} {l5 : Int32} {t0 : Int32}  : zd S 104 98 [some (.ref 76), none, none, some (.int l3), some (.int l4), some (.int l5)] [.int t0] I J k = if t0 = 0 then zd S 104 111 [some (.ref 76), none, none, some (.int l3), some (.int l4), some (.int l5)] [] I J k else zd S 104 101 [some (.ref 76), none, none, some (.int l3), some (.int l4), some (.int l5)] [] I J k := by
  refine (tt_f rfl).trans ?_
  exact tt_f1 (p := fun x => x = 0) inferInstance rfl
theorem B104_101 {l3 : Int32} {l4 : Int32} {l5 : Int32}  : zd S 104 101 [some (.ref 76), none, none, some (.int l3), some (.int l4), some (.int l5)] [] I J k = zd S 104 85 [some (.ref 76), none, none, some (.int l3), some (.int (l4 + (1 <<< (l5 &&& 31)))), some (.int (l5 + 1))] [] I J k := by
  refine (tt_f rfl).trans ?_
  refine (tt_il rfl).trans ?_
  refine (tt_f rfl).trans ?_
  refine tt_c.trans ?_
  refine (tt_f rfl).trans ?_
  refine (tt_il rfl).trans ?_
  refine (tt_f rfl).trans ?_
  refine tt_bi.trans ?_
  refine (tt_f rfl).trans ?_
  refine tt_bi.trans ?_
  refine (tt_f rfl).trans ?_
  refine tt_go.trans ?_
  refine (tt_fk rfl rfl).trans ?_
  refine (tt_is rfl rfl).trans ?_
  refine (tt_f rfl).trans ?_
  refine (tt_in rfl rfl).trans ?_
  refine (tt_f rfl).trans ?_
  refine tt_go.trans ?_
  rfl
theorem B104_111 {l3 : Int32} {l4 : Int32} {l5 : Int32}  : zd S 104 111 [some (.ref 76), none, none, some (.int l3), some (.int l4), some (.int l5)] [] I J k = zd S 104 85 [some (.ref 76), none, none, some (.int l3), some (.int l4), some (.int (l5 + 1))] [] I J k := by
  refine (tt_f rfl).trans ?_
  refine (tt_il rfl).trans ?_
  refine (tt_fk rfl rfl).trans ?_
  refine (tt_is rfl rfl).trans ?_
  refine (tt_f rfl).trans ?_
  refine (tt_in rfl rfl).trans ?_
  refine (tt_f rfl).trans ?_
  refine tt_go.trans ?_
  rfl
theorem B104_121 {l3 : Int32} {l4 : Int32} {l5 : Int32}  : zd S 104 121 [some (.ref 76), none, none, some (.int l3), some (.int l4), some (.int l5)] [] I J k = some ((some (.int l4)), mk I J, k) := by
  refine (tt_f rfl).trans ?_
  refine (tt_il rfl).trans ?_
  exact tt_r1 rfl rfl
/-! 105: EditionGridModel.feed -/
theorem B105_0 {l1 : Int64} {l3 : Int32}  : zd S 105 0 [some (.ref 76), some (.long l1), none, some (.int l3), none, none] [] I J k = if l3 < 1 then zd S 105 11 [some (.ref 76), some (.long l1), none, some (.int l3), none, none] [] I J k else zd S 105 5 [some (.ref 76), some (.long l1), none, some (.int l3), none, none] [] I J k := by
  refine (tt_f rfl).trans ?_
  refine (tt_il rfl).trans ?_
  refine (tt_f rfl).trans ?_
  refine tt_c.trans ?_
  refine (tt_f rfl).trans ?_
  exact tt_f2 (p := fun x y => x < y) inferInstance rfl
theorem B105_5 {l1 : Int64} {l3 : Int32}  : zd S 105 5 [some (.ref 76), some (.long l1), none, some (.int l3), none, none] [] I J k = if l3 ≤ 8 then zd S 105 13 [some (.ref 76), some (.long l1), none, some (.int l3), none, none] [] I J k else zd S 105 11 [some (.ref 76), some (.long l1), none, some (.int l3), none, none] [] I J k := by
  refine (tt_f rfl).trans ?_
  refine (tt_il rfl).trans ?_
  refine (tt_f rfl).trans ?_
  refine tt_c.trans ?_
  refine (tt_f rfl).trans ?_
  exact tt_f2 (p := fun x y => x ≤ y) inferInstance rfl
theorem B105_11 {l1 : Int64} {l3 : Int32}  : zd S 105 11 [some (.ref 76), some (.long l1), none, some (.int l3), none, none] [] I J k = some ((some (.int (-1))), mk I J, k) := by
  refine (tt_fk rfl rfl).trans ?_
  refine tt_c.trans ?_
  exact tt_r1 rfl rfl
theorem B105_13 {l1 : Int64} {l3 : Int32}  : zd S 105 13 [some (.ref 76), some (.long l1), none, some (.int l3), none, none] [] I J k = zd S 105 16 [some (.ref 76), some (.long l1), none, some (.int l3), some (.int 0), none] [] I J k := by
  refine (tt_f rfl).trans ?_
  refine tt_c.trans ?_
  refine (tt_f rfl).trans ?_
  refine (tt_is rfl rfl).trans ?_
  rfl
theorem B105_16 {l1 : Int64} {l3 : Int32} {l4 : Int32}  : zd S 105 16 [some (.ref 76), some (.long l1), none, some (.int l3), some (.int l4), none] [] I J k = if l3 ≤ l4 then zd S 105 60 [some (.ref 76), some (.long l1), none, some (.int l3), some (.int l4), none] [] I J k else zd S 105 22 [some (.ref 76), some (.long l1), none, some (.int l3), some (.int l4), none] [] I J k := by
  refine (tt_fk rfl rfl).trans ?_
  refine (tt_il rfl).trans ?_
  refine (tt_f rfl).trans ?_
  refine (tt_il rfl).trans ?_
  refine (tt_f rfl).trans ?_
  exact tt_f2 (p := fun x y => y ≤ x) inferInstance rfl
theorem B105_22 {l1 : Int64} {l3 : Int32} {l4 : Int32} {v1 : Int32} {I2 : zI} {J3 : zJ} (hb : Nat.ble k.1 (mBu 105).1 = true ∧ Nat.ble k.2 (mBu 105).2 = true) (hq : zq S 97 [.long l1, .int l3, .int l4] I J (some (.int v1)) I2 J3) : zd S 105 22 [some (.ref 76), some (.long l1), none, some (.int l3), some (.int l4), none] [] I J k = zd S 105 29 [some (.ref 76), some (.long l1), none, some (.int l3), some (.int l4), none] [.int v1] I2 J3 k := by
  refine (tt_f rfl).trans ?_
  refine (tt_ll rfl).trans ?_
  refine (tt_f rfl).trans ?_
  refine (tt_il rfl).trans ?_
  refine (tt_f rfl).trans ?_
  refine (tt_il rfl).trans ?_
  exact tt_cs (vs := [.long l1, .int l3, .int l4]) rfl hb.1 hb.2 rfl rfl rfl rfl hq
theorem B105_29 {l1 : Int64} {l3 : Int32} {l4 : Int32} {t0 : Int32}  : zd S 105 29 [some (.ref 76), some (.long l1), none, some (.int l3), some (.int l4), none] [.int t0] I J k = if t0 = 10 then zd S 105 54 [some (.ref 76), some (.long l1), none, some (.int l3), some (.int l4), some (.int t0)] [] I J k else zd S 105 38 [some (.ref 76), some (.long l1), none, some (.int l3), some (.int l4), some (.int t0)] [] I J k := by
  refine (tt_f rfl).trans ?_
  refine (tt_is rfl rfl).trans ?_
  refine (tt_f rfl).trans ?_
  refine (tt_il rfl).trans ?_
  refine (tt_f rfl).trans ?_
  refine tt_c.trans ?_
  refine (tt_f rfl).trans ?_
  exact tt_f2 (p := fun x y => x = y) inferInstance rfl
theorem B105_38 {l1 : Int64} {l3 : Int32} {l4 : Int32} {l5 : Int32}  : zd S 105 38 [some (.ref 76), some (.long l1), none, some (.int l3), some (.int l4), some (.int l5)] [] I J k = if l5 < 32 then zd S 105 52 [some (.ref 76), some (.long l1), none, some (.int l3), some (.int l4), some (.int l5)] [] I J k else zd S 105 45 [some (.ref 76), some (.long l1), none, some (.int l3), some (.int l4), some (.int l5)] [] I J k := by
  refine (tt_f rfl).trans ?_
  refine (tt_il rfl).trans ?_
  refine (tt_f rfl).trans ?_
  refine tt_c.trans ?_
  refine (tt_f rfl).trans ?_
  exact tt_f2 (p := fun x y => x < y) inferInstance rfl
theorem B105_45 {l1 : Int64} {l3 : Int32} {l4 : Int32} {l5 : Int32}  : zd S 105 45 [some (.ref 76), some (.long l1), none, some (.int l3), some (.int l4), some (.int l5)] [] I J k = if l5 ≤ 126 then zd S 105 54 [some (.ref 76), some (.long l1), none, some (.int l3), some (.int l4), some (.int l5)] [] I J k else zd S 105 52 [some (.ref 76), some (.long l1), none, some (.int l3), some (.int l4), some (.int l5)] [] I J k := by
  refine (tt_f rfl).trans ?_
  refine (tt_il rfl).trans ?_
  refine (tt_f rfl).trans ?_
  refine tt_c.trans ?_
  refine (tt_f rfl).trans ?_
  exact tt_f2 (p := fun x y => x ≤ y) inferInstance rfl
theorem B105_52 {l1 : Int64} {l3 : Int32} {l4 : Int32} {l5 : Int32}  : zd S 105 52 [some (.ref 76), some (.long l1), none, some (.int l3), some (.int l4), some (.int l5)] [] I J k = some ((some (.int (-1))), mk I J, k) := by
  refine (tt_fk rfl rfl).trans ?_
  refine tt_c.trans ?_
  exact tt_r1 rfl rfl
theorem B105_54 {l1 : Int64} {l3 : Int32} {l4 : Int32} {l5 : Int32}  : zd S 105 54 [some (.ref 76), some (.long l1), none, some (.int l3), some (.int l4), some (.int l5)] [] I J k = zd S 105 16 [some (.ref 76), some (.long l1), none, some (.int l3), some (.int (l4 + 1)), none] [] I J k := by
  refine (tt_fk rfl rfl).trans ?_
  refine (tt_in rfl rfl).trans ?_
  refine (tt_f rfl).trans ?_
  refine tt_go.trans ?_
  rfl
theorem B105_60 {l1 : Int64} {l3 : Int32} {l4 : Int32}  : zd S 105 60 [some (.ref 76), some (.long l1), none, some (.int l3), some (.int l4), none] [] I J k = if ((I 76 12) + l3) ≤ 480 then zd S 105 75 [some (.ref 76), some (.long l1), none, some (.int l3), some (.int l4), none] [] I J k else zd S 105 72 [some (.ref 76), some (.long l1), none, some (.int l3), some (.int l4), none] [] I J k := by
  refine (tt_f rfl).trans ?_
  refine (tt_al rfl).trans ?_
  refine (tt_f rfl).trans ?_
  refine (tt_gi rfl rfl).trans ?_
  refine (tt_f rfl).trans ?_
  refine (tt_il rfl).trans ?_
  refine (tt_f rfl).trans ?_
  refine tt_bi.trans ?_
  refine (tt_f rfl).trans ?_
  refine tt_c.trans ?_
  refine (tt_f rfl).trans ?_
  exact tt_f2 (p := fun x y => x ≤ y) inferInstance rfl
theorem B105_72 {l1 : Int64} {l3 : Int32} {l4 : Int32}  : zd S 105 72 [some (.ref 76), some (.long l1), none, some (.int l3), some (.int l4), none] [] I J k = some ((some (.int (-2))), mk I J, k) := by
  refine (tt_f rfl).trans ?_
  refine tt_c.trans ?_
  exact tt_r1 rfl rfl
theorem B105_75 {l1 : Int64} {l3 : Int32} {l4 : Int32}  : zd S 105 75 [some (.ref 76), some (.long l1), none, some (.int l3), some (.int l4), none] [] I J k = zd S 105 78 [some (.ref 76), some (.long l1), none, some (.int l3), some (.int 0), none] [] I J k := by
  refine (tt_f rfl).trans ?_
  refine tt_c.trans ?_
  refine (tt_f rfl).trans ?_
  refine (tt_is rfl rfl).trans ?_
  rfl
theorem B105_78 {l1 : Int64} {l3 : Int32} {l4 : Int32}  : zd S 105 78 [some (.ref 76), some (.long l1), none, some (.int l3), some (.int l4), none] [] I J k = if l3 ≤ l4 then zd S 105 116 [some (.ref 76), some (.long l1), none, some (.int l3), some (.int l4), none] [] I J k else zd S 105 84 [some (.ref 76), some (.long l1), none, some (.int l3), some (.int l4), none] [] I J k := by
  refine (tt_fk rfl rfl).trans ?_
  refine (tt_il rfl).trans ?_
  refine (tt_f rfl).trans ?_
  refine (tt_il rfl).trans ?_
  refine (tt_f rfl).trans ?_
  exact tt_f2 (p := fun x y => y ≤ x) inferInstance rfl
theorem B105_84 {l1 : Int64} {l3 : Int32} {l4 : Int32} {v1 : Int32} {I2 : zI} {J3 : zJ} (hb : Nat.ble k.1 (mBu 105).1 = true ∧ Nat.ble k.2 (mBu 105).2 = true) (hq : zq S 97 [.long l1, .int l3, .int l4] I J (some (.int v1)) I2 J3) : zd S 105 84 [some (.ref 76), some (.long l1), none, some (.int l3), some (.int l4), none] [] I J k = zd S 105 99 [some (.ref 76), some (.long l1), none, some (.int l3), some (.int l4), none] [.int v1, .int (I 76 12), .ref 84] I2 J3 k := by
  refine (tt_f rfl).trans ?_
  refine (tt_al rfl).trans ?_
  refine (tt_f rfl).trans ?_
  refine (tt_gr rfl rfl).trans ?_
  refine (tt_f rfl).trans ?_
  refine (tt_al rfl).trans ?_
  refine (tt_f rfl).trans ?_
  refine (tt_gi rfl rfl).trans ?_
  refine (tt_f rfl).trans ?_
  refine (tt_ll rfl).trans ?_
  refine (tt_f rfl).trans ?_
  refine (tt_il rfl).trans ?_
  refine (tt_f rfl).trans ?_
  refine (tt_il rfl).trans ?_
  exact tt_cs (vs := [.long l1, .int l3, .int l4]) rfl hb.1 hb.2 rfl rfl rfl rfl hq
theorem B105_99 {l1 : Int64} {l3 : Int32} {l4 : Int32} {t1 : Int32} {t2 : Int32} (hi1 : zin t1 480 = true) : zd S 105 99 [some (.ref 76), some (.long l1), none, some (.int l3), some (.int l4), none] [.int t2, .int t1, .ref 84] I J k = zd S 105 100 [some (.ref 76), some (.long l1), none, some (.int l3), some (.int l4), none] [] (u2 I 84 t1.toNatClampNeg t2) J k := by
  refine (tt_f rfl).trans ?_
  exact tt_pa rfl rfl hi1
theorem B105_100 {l1 : Int64} {l3 : Int32} {l4 : Int32}  : zd S 105 100 [some (.ref 76), some (.long l1), none, some (.int l3), some (.int l4), none] [] I J k = zd S 105 110 [some (.ref 76), some (.long l1), none, some (.int l3), some (.int l4), none] [] (u2 I 76 12 ((I 76 12) + 1)) J k := by
  refine (tt_f rfl).trans ?_
  refine (tt_al rfl).trans ?_
  refine (tt_f rfl).trans ?_
  refine (tt_dup rfl).trans ?_
  refine (tt_f rfl).trans ?_
  refine (tt_gi rfl rfl).trans ?_
  refine (tt_f rfl).trans ?_
  refine tt_c.trans ?_
  refine (tt_f rfl).trans ?_
  refine tt_bi.trans ?_
  refine (tt_f rfl).trans ?_
  exact tt_pi rfl rfl rfl
theorem B105_110 {l1 : Int64} {l3 : Int32} {l4 : Int32}  : zd S 105 110 [some (.ref 76), some (.long l1), none, some (.int l3), some (.int l4), none] [] I J k = zd S 105 78 [some (.ref 76), some (.long l1), none, some (.int l3), some (.int (l4 + 1)), none] [] I J k := by
  refine (tt_f rfl).trans ?_
  refine (tt_in rfl rfl).trans ?_
  refine (tt_f rfl).trans ?_
  refine tt_go.trans ?_
  rfl
theorem B105_116 {l1 : Int64} {l3 : Int32} {l4 : Int32}  : zd S 105 116 [some (.ref 76), some (.long l1), none, some (.int l3), some (.int l4), none] [] I J k = some ((some (.int (I 76 12))), mk I J, k) := by
  refine (tt_f rfl).trans ?_
  refine (tt_al rfl).trans ?_
  refine (tt_f rfl).trans ?_
  refine (tt_gi rfl rfl).trans ?_
  exact tt_r1 rfl rfl
/-! 106: EditionGridModel.clear -/
theorem B106_0   : zd S 106 0 [some (.ref 76), none] [] I J k = zd S 106 10 [some (.ref 76), some (.int (I 76 12))] [] (u2 I 76 12 0) J k := by
  refine (tt_f rfl).trans ?_
  refine (tt_al rfl).trans ?_
  refine (tt_f rfl).trans ?_
  refine (tt_gi rfl rfl).trans ?_
  refine (tt_f rfl).trans ?_
  refine (tt_is rfl rfl).trans ?_
  refine (tt_f rfl).trans ?_
  refine (tt_al rfl).trans ?_
  refine (tt_f rfl).trans ?_
  refine tt_c.trans ?_
  refine (tt_f rfl).trans ?_
  exact tt_pi rfl rfl rfl
theorem B106_10 {l1 : Int32}  : zd S 106 10 [some (.ref 76), some (.int l1)] [] I J k = some ((some (.int l1)), mk I J, k) := by
  refine (tt_f rfl).trans ?_
  refine (tt_il rfl).trans ?_
  exact tt_r1 rfl rfl
/-! 107: EditionGridModel.here -/
theorem B107_0   : zd S 107 0 [some (.ref 76)] [] I J k = if (I 76 12) ≤ (I 76 22) then zd S 107 23 [some (.ref 76)] [] I J k else zd S 107 11 [some (.ref 76)] [] I J k := by
  refine (tt_f rfl).trans ?_
  refine (tt_al rfl).trans ?_
  refine (tt_f rfl).trans ?_
  refine (tt_gi rfl rfl).trans ?_
  refine (tt_f rfl).trans ?_
  refine (tt_al rfl).trans ?_
  refine (tt_f rfl).trans ?_
  refine (tt_gi rfl rfl).trans ?_
  refine (tt_f rfl).trans ?_
  exact tt_f2 (p := fun x y => y ≤ x) inferInstance rfl
theorem B107_11  (hi1 : zin (I 76 22) 480 = true) : zd S 107 11 [some (.ref 76)] [] I J k = some ((some (.int (I 84 (I 76 22).toNatClampNeg))), mk I J, k) := by
  refine (tt_f rfl).trans ?_
  refine (tt_al rfl).trans ?_
  refine (tt_f rfl).trans ?_
  refine (tt_gr rfl rfl).trans ?_
  refine (tt_f rfl).trans ?_
  refine (tt_al rfl).trans ?_
  refine (tt_f rfl).trans ?_
  refine (tt_gi rfl rfl).trans ?_
  refine (tt_f rfl).trans ?_
  refine (tt_ga rfl rfl hi1).trans ?_
  refine (tt_f rfl).trans ?_
  refine tt_go.trans ?_
  exact tt_r1 rfl rfl
theorem B107_23   : zd S 107 23 [some (.ref 76)] [] I J k = some ((some (.int 0)), mk I J, k) := by
  refine (tt_f rfl).trans ?_
  refine tt_c.trans ?_
  exact tt_r1 rfl rfl
/-! 108: EditionGridModel.fail -/
theorem B108_0   : zd S 108 0 [some (.ref 76)] [] I J k = if 0 ≤ (I 76 23) then zd S 108 15 [some (.ref 76)] [.ref 76] I J k else zd S 108 8 [some (.ref 76)] [.ref 76] I J k := by
  refine (tt_f rfl).trans ?_
  refine (tt_al rfl).trans ?_
  refine (tt_f rfl).trans ?_
  refine (tt_al rfl).trans ?_
  refine (tt_f rfl).trans ?_
  refine (tt_gi rfl rfl).trans ?_
  refine (tt_f rfl).trans ?_
  exact tt_f1 (p := fun x => 0 ≤ x) inferInstance rfl
theorem B108_8   : zd S 108 8 [some (.ref 76)] [.ref 76] I J k = zd S 108 22 [none] [] (u2 I 76 23 (I 76 22)) J k := by
  refine (tt_f rfl).trans ?_
  refine (tt_al rfl).trans ?_
  refine (tt_f rfl).trans ?_
  refine (tt_gi rfl rfl).trans ?_
  refine (tt_f rfl).trans ?_
  refine tt_go.trans ?_
  refine (tt_fk rfl rfl).trans ?_
  exact tt_pi rfl rfl rfl
theorem B108_15   : zd S 108 15 [some (.ref 76)] [.ref 76] I J k = zd S 108 22 [none] [] (u2 I 76 23 (I 76 23)) J k := by
  refine (tt_f rfl).trans ?_
  refine (tt_al rfl).trans ?_
  refine (tt_f rfl).trans ?_
  refine (tt_gi rfl rfl).trans ?_
  refine (tt_fk rfl rfl).trans ?_
  exact tt_pi rfl rfl rfl
theorem B108_22   : zd S 108 22 [none] [] I J k = some (none, mk I J, k) := by
  exact tt_rv rfl
/-! 109: EditionGridModel.take -/
theorem B109_0 {l1 : Int32} {l2 : Int32} {v1 : Int32} {I2 : zI} {J3 : zJ} (hb : Nat.ble k.1 (mBu 109).1 = true ∧ Nat.ble k.2 (mBu 109).2 = true) (hq : zq S 107 [.ref 76] I J (some (.int v1)) I2 J3) : zd S 109 0 [some (.ref 76), some (.int l1), some (.int l2), none] [] I J k = zd S 109 4 [some (.ref 76), some (.int l1), some (.int l2), none] [.int v1] I2 J3 k := by
  refine (tt_f rfl).trans ?_
  refine (tt_al rfl).trans ?_
  exact tt_cv (As := []) rfl hb.1 hb.2 rfl rfl rfl rfl rfl hq
theorem B109_4 {l1 : Int32} {l2 : Int32} {t0 : Int32}  : zd S 109 4 [some (.ref 76), some (.int l1), some (.int l2), none] [.int t0] I J k = if t0 < l1 then zd S 109 15 [some (.ref 76), some (.int l1), some (.int l2), some (.int t0)] [] I J k else zd S 109 10 [some (.ref 76), some (.int l1), some (.int l2), some (.int t0)] [] I J k := by
  refine (tt_f rfl).trans ?_
  refine (tt_is rfl rfl).trans ?_
  refine (tt_f rfl).trans ?_
  refine (tt_il rfl).trans ?_
  refine (tt_f rfl).trans ?_
  refine (tt_il rfl).trans ?_
  refine (tt_f rfl).trans ?_
  exact tt_f2 (p := fun x y => x < y) inferInstance rfl
theorem B109_10 {l1 : Int32} {l2 : Int32} {l3 : Int32}  : zd S 109 10 [some (.ref 76), some (.int l1), some (.int l2), some (.int l3)] [] I J k = if l3 ≤ l2 then zd S 109 22 [some (.ref 76), some (.int l1), some (.int l2), some (.int l3)] [] I J k else zd S 109 15 [some (.ref 76), some (.int l1), some (.int l2), some (.int l3)] [] I J k := by
  refine (tt_f rfl).trans ?_
  refine (tt_il rfl).trans ?_
  refine (tt_f rfl).trans ?_
  refine (tt_il rfl).trans ?_
  refine (tt_f rfl).trans ?_
  exact tt_f2 (p := fun x y => x ≤ y) inferInstance rfl
theorem B109_15 {l1 : Int32} {l2 : Int32} {l3 : Int32} {I1 : zI} {J2 : zJ} (hb : Nat.ble k.1 (mBu 109).1 = true ∧ Nat.ble k.2 (mBu 109).2 = true) (hq : zq S 108 [.ref 76] I J none I1 J2) : zd S 109 15 [some (.ref 76), some (.int l1), some (.int l2), some (.int l3)] [] I J k = zd S 109 19 [some (.ref 76), none, none, some (.int l3)] [] I1 J2 k := by
  refine (tt_fk rfl rfl).trans ?_
  refine (tt_al rfl).trans ?_
  exact tt_cv (As := []) rfl hb.1 hb.2 rfl rfl rfl rfl rfl hq
theorem B109_19 {l3 : Int32}  : zd S 109 19 [some (.ref 76), none, none, some (.int l3)] [] I J k = some ((some (.int l3)), mk I J, k) := by
  refine (tt_f rfl).trans ?_
  refine tt_go.trans ?_
  refine (tt_fk rfl rfl).trans ?_
  refine (tt_il rfl).trans ?_
  exact tt_r1 rfl rfl
theorem B109_22 {l1 : Int32} {l2 : Int32} {l3 : Int32}  : zd S 109 22 [some (.ref 76), some (.int l1), some (.int l2), some (.int l3)] [] I J k = zd S 109 32 [some (.ref 76), some (.int l1), some (.int l2), some (.int l3)] [] (u2 I 76 22 ((I 76 22) + 1)) J k := by
  refine (tt_f rfl).trans ?_
  refine (tt_al rfl).trans ?_
  refine (tt_f rfl).trans ?_
  refine (tt_dup rfl).trans ?_
  refine (tt_f rfl).trans ?_
  refine (tt_gi rfl rfl).trans ?_
  refine (tt_f rfl).trans ?_
  refine tt_c.trans ?_
  refine (tt_f rfl).trans ?_
  refine tt_bi.trans ?_
  refine (tt_f rfl).trans ?_
  exact tt_pi rfl rfl rfl
theorem B109_32 {l1 : Int32} {l2 : Int32} {l3 : Int32}  : zd S 109 32 [some (.ref 76), some (.int l1), some (.int l2), some (.int l3)] [] I J k = some ((some (.int l3)), mk I J, k) := by
  refine (tt_fk rfl rfl).trans ?_
  refine (tt_il rfl).trans ?_
  exact tt_r1 rfl rfl
/-! 110: EditionGridModel.readWord -/
theorem B110_0 {l1 : Int32}  : zd S 110 0 [some (.ref 76), some (.int l1), none] [] I J k = zd S 110 2 [some (.ref 76), some (.int l1), some (.int 0)] [] I J k := by
  refine (tt_f rfl).trans ?_
  refine tt_c.trans ?_
  refine (tt_f rfl).trans ?_
  refine (tt_is rfl rfl).trans ?_
  rfl
theorem B110_2 {l1 : Int32} {l2 : Int32}  : zd S 110 2 [some (.ref 76), some (.int l1), some (.int l2)] [] I J k = if 0 ≤ (I 76 23) then zd S 110 79 [some (.ref 76), some (.int l1), some (.int l2)] [] I J k else zd S 110 9 [some (.ref 76), some (.int l1), some (.int l2)] [] I J k := by
  refine (tt_fk rfl rfl).trans ?_
  refine (tt_al rfl).trans ?_
  refine (tt_f rfl).trans ?_
  refine (tt_gi rfl rfl).trans ?_
  refine (tt_f rfl).trans ?_
  exact tt_f1 (p := fun x => 0 ≤ x) inferInstance rfl
theorem B110_9 {l1 : Int32} {l2 : Int32} {v1 : Int32} {I2 : zI} {J3 : zJ} (hb : Nat.ble k.1 (mBu 110).1 = true ∧ Nat.ble k.2 (mBu 110).2 = true) (hq : zq S 107 [.ref 76] I J (some (.int v1)) I2 J3) : zd S 110 9 [some (.ref 76), some (.int l1), some (.int l2)] [] I J k = zd S 110 13 [some (.ref 76), some (.int l1), some (.int l2)] [.int v1] I2 J3 k := by
  refine (tt_f rfl).trans ?_
  refine (tt_al rfl).trans ?_
  exact tt_cv (As := []) rfl hb.1 hb.2 rfl rfl rfl rfl rfl hq
theorem B110_13 {l1 : Int32} {l2 : Int32} {t0 : Int32} {v1 : Int32} {I2 : zI} {J3 : zJ} (hb : Nat.ble k.1 (mBu 110).1 = true ∧ Nat.ble k.2 (mBu 110).2 = true) (hq : zq S 95 [.int t0] I J (some (.int v1)) I2 J3) : zd S 110 13 [some (.ref 76), some (.int l1), some (.int l2)] [.int t0] I J k = zd S 110 16 [some (.ref 76), some (.int l1), some (.int l2)] [.int v1] I2 J3 k := by
  exact tt_cs (vs := [.int t0]) rfl hb.1 hb.2 rfl rfl rfl rfl hq
theorem B110_16 {l1 : Int32} {l2 : Int32} {t0 : Int32}  : zd S 110 16 [some (.ref 76), some (.int l1), some (.int l2)] [.int t0] I J k = if t0 = 0 then zd S 110 79 [some (.ref 76), some (.int l1), some (.int l2)] [] I J k else zd S 110 19 [some (.ref 76), some (.int l1), some (.int l2)] [] I J k := by
  refine (tt_f rfl).trans ?_
  exact tt_f1 (p := fun x => x = 0) inferInstance rfl
theorem B110_19 {l1 : Int32} {l2 : Int32}  : zd S 110 19 [some (.ref 76), some (.int l1), some (.int l2)] [] I J k = if ¬ l2 = 12 then zd S 110 32 [some (.ref 76), some (.int l1), some (.int l2)] [] I J k else zd S 110 25 [some (.ref 76), some (.int l1), some (.int l2)] [] I J k := by
  refine (tt_f rfl).trans ?_
  refine (tt_il rfl).trans ?_
  refine (tt_f rfl).trans ?_
  refine tt_c.trans ?_
  refine (tt_f rfl).trans ?_
  exact tt_f2 (p := fun x y => ¬ x = y) inferInstance rfl
theorem B110_25 {l1 : Int32} {l2 : Int32} {I1 : zI} {J2 : zJ} (hb : Nat.ble k.1 (mBu 110).1 = true ∧ Nat.ble k.2 (mBu 110).2 = true) (hq : zq S 108 [.ref 76] I J none I1 J2) : zd S 110 25 [some (.ref 76), some (.int l1), some (.int l2)] [] I J k = zd S 110 29 [some (.ref 76), some (.int l1), some (.int l2)] [] I1 J2 k := by
  refine (tt_f rfl).trans ?_
  refine (tt_al rfl).trans ?_
  exact tt_cv (As := []) rfl hb.1 hb.2 rfl rfl rfl rfl rfl hq
theorem B110_29 {l1 : Int32} {l2 : Int32}  : zd S 110 29 [some (.ref 76), some (.int l1), some (.int l2)] [] I J k = zd S 110 2 [some (.ref 76), some (.int l1), some (.int l2)] [] I J k := by
  refine (tt_f rfl).trans ?_
  refine tt_go.trans ?_
  rfl
theorem B110_32 {l1 : Int32} {l2 : Int32} {v2 : Int32} {I3 : zI} {J4 : zJ} (hb : Nat.ble k.1 (mBu 110).1 = true ∧ Nat.ble k.2 (mBu 110).2 = true) (hi1 : zin l1 20 = true) (hq : zq S 107 [.ref 76] I J (some (.int v2)) I3 J4) : zd S 110 32 [some (.ref 76), some (.int l1), some (.int l2)] [] I J k = zd S 110 52 [some (.ref 76), some (.int l1), some (.int l2)] [.int v2, .int ((192 * l1) + (I 92 l1.toNatClampNeg)), .ref 89] I3 J4 k := by
  refine (tt_f rfl).trans ?_
  refine (tt_al rfl).trans ?_
  refine (tt_f rfl).trans ?_
  refine (tt_gr rfl rfl).trans ?_
  refine (tt_f rfl).trans ?_
  refine tt_c.trans ?_
  refine (tt_f rfl).trans ?_
  refine (tt_il rfl).trans ?_
  refine (tt_f rfl).trans ?_
  refine tt_bi.trans ?_
  refine (tt_f rfl).trans ?_
  refine (tt_al rfl).trans ?_
  refine (tt_f rfl).trans ?_
  refine (tt_gr rfl rfl).trans ?_
  refine (tt_f rfl).trans ?_
  refine (tt_il rfl).trans ?_
  refine (tt_f rfl).trans ?_
  refine (tt_ga rfl rfl hi1).trans ?_
  refine (tt_f rfl).trans ?_
  refine tt_bi.trans ?_
  refine (tt_f rfl).trans ?_
  refine (tt_al rfl).trans ?_
  exact tt_cv (As := []) rfl hb.1 hb.2 rfl rfl rfl rfl rfl hq
theorem B110_52 {l1 : Int32} {l2 : Int32} {t1 : Int32} {t2 : Int32} (hi1 : zin t1 3840 = true) : zd S 110 52 [some (.ref 76), some (.int l1), some (.int l2)] [.int t2, .int t1, .ref 89] I J k = zd S 110 53 [some (.ref 76), some (.int l1), some (.int l2)] [] (u2 I 89 t1.toNatClampNeg t2) J k := by
  refine (tt_f rfl).trans ?_
  exact tt_pa rfl rfl hi1
theorem B110_53 {l1 : Int32} {l2 : Int32} (hi1 : zin l1 20 = true) (hi2 : zin l1 20 = true) : zd S 110 53 [some (.ref 76), some (.int l1), some (.int l2)] [] I J k = zd S 110 63 [some (.ref 76), some (.int l1), some (.int l2)] [] (u2 I 92 l1.toNatClampNeg ((I 92 l1.toNatClampNeg) + 1)) J k := by
  refine (tt_f rfl).trans ?_
  refine (tt_al rfl).trans ?_
  refine (tt_f rfl).trans ?_
  refine (tt_gr rfl rfl).trans ?_
  refine (tt_f rfl).trans ?_
  refine (tt_il rfl).trans ?_
  refine (tt_f rfl).trans ?_
  refine (tt_d2 rfl rfl).trans ?_
  refine (tt_f rfl).trans ?_
  refine (tt_ga rfl rfl hi1).trans ?_
  refine (tt_f rfl).trans ?_
  refine tt_c.trans ?_
  refine (tt_f rfl).trans ?_
  refine tt_bi.trans ?_
  refine (tt_f rfl).trans ?_
  exact tt_pa rfl rfl hi2
theorem B110_63 {l1 : Int32} {l2 : Int32}  : zd S 110 63 [some (.ref 76), some (.int l1), some (.int l2)] [] I J k = zd S 110 76 [some (.ref 76), some (.int l1), some (.int (l2 + 1))] [] (u2 I 76 22 ((I 76 22) + 1)) J k := by
  refine (tt_f rfl).trans ?_
  refine (tt_in rfl rfl).trans ?_
  refine (tt_f rfl).trans ?_
  refine (tt_al rfl).trans ?_
  refine (tt_f rfl).trans ?_
  refine (tt_dup rfl).trans ?_
  refine (tt_f rfl).trans ?_
  refine (tt_gi rfl rfl).trans ?_
  refine (tt_f rfl).trans ?_
  refine tt_c.trans ?_
  refine (tt_f rfl).trans ?_
  refine tt_bi.trans ?_
  refine (tt_f rfl).trans ?_
  exact tt_pi rfl rfl rfl
theorem B110_76 {l1 : Int32} {l2 : Int32}  : zd S 110 76 [some (.ref 76), some (.int l1), some (.int l2)] [] I J k = zd S 110 2 [some (.ref 76), some (.int l1), some (.int l2)] [] I J k := by
  refine (tt_f rfl).trans ?_
  refine tt_go.trans ?_
  rfl
theorem B110_79 {l1 : Int32} {l2 : Int32} (hi1 : zin l1 20 = true) (hi2 : zin l1 20 = true) (hi3 : zin ((16 * l1) + (I 91 l1.toNatClampNeg)) 320 = true) : zd S 110 79 [some (.ref 76), some (.int l1), some (.int l2)] [] I J k = zd S 110 101 [some (.ref 76), some (.int l1), none] [] (u2 I 90 ((16 * l1) + (I 91 l1.toNatClampNeg)).toNatClampNeg (I 92 l1.toNatClampNeg)) J k := by
  refine (tt_fk rfl rfl).trans ?_
  refine (tt_al rfl).trans ?_
  refine (tt_f rfl).trans ?_
  refine (tt_gr rfl rfl).trans ?_
  refine (tt_f rfl).trans ?_
  refine tt_c.trans ?_
  refine (tt_f rfl).trans ?_
  refine (tt_il rfl).trans ?_
  refine (tt_f rfl).trans ?_
  refine tt_bi.trans ?_
  refine (tt_f rfl).trans ?_
  refine (tt_al rfl).trans ?_
  refine (tt_f rfl).trans ?_
  refine (tt_gr rfl rfl).trans ?_
  refine (tt_f rfl).trans ?_
  refine (tt_il rfl).trans ?_
  refine (tt_f rfl).trans ?_
  refine (tt_ga rfl rfl hi1).trans ?_
  refine (tt_f rfl).trans ?_
  refine tt_bi.trans ?_
  refine (tt_f rfl).trans ?_
  refine (tt_al rfl).trans ?_
  refine (tt_f rfl).trans ?_
  refine (tt_gr rfl rfl).trans ?_
  refine (tt_f rfl).trans ?_
  refine (tt_il rfl).trans ?_
  refine (tt_f rfl).trans ?_
  refine (tt_ga rfl rfl hi2).trans ?_
  refine (tt_f rfl).trans ?_
  exact tt_pa rfl rfl hi3
theorem B110_101 {l1 : Int32} (hi1 : zin l1 20 = true) (hi2 : zin l1 20 = true) : zd S 110 101 [some (.ref 76), some (.int l1), none] [] I J k = zd S 110 111 [some (.ref 76), some (.int l1), none] [] (u2 I 91 l1.toNatClampNeg ((I 91 l1.toNatClampNeg) + 1)) J k := by
  refine (tt_f rfl).trans ?_
  refine (tt_al rfl).trans ?_
  refine (tt_f rfl).trans ?_
  refine (tt_gr rfl rfl).trans ?_
  refine (tt_f rfl).trans ?_
  refine (tt_il rfl).trans ?_
  refine (tt_f rfl).trans ?_
  refine (tt_d2 rfl rfl).trans ?_
  refine (tt_f rfl).trans ?_
  refine (tt_ga rfl rfl hi1).trans ?_
  refine (tt_f rfl).trans ?_
  refine tt_c.trans ?_
  refine (tt_f rfl).trans ?_
  refine tt_bi.trans ?_
  refine (tt_f rfl).trans ?_
  exact tt_pa rfl rfl hi2
theorem B110_111 {l1 : Int32}  : zd S 110 111 [some (.ref 76), some (.int l1), none] [] I J k = some (none, mk I J, k) := by
  exact tt_rv rfl
/-! 111: EditionGridModel.readWords -/
theorem B111_0 {l1 : Int32} {l2 : Int32} (hi1 : zin l1 20 = true) : zd S 111 0 [some (.ref 76), some (.int l1), some (.int l2), none, none] [] I J k = zd S 111 7 [some (.ref 76), some (.int l1), some (.int l2), none, none] [] (u2 I 91 l1.toNatClampNeg 0) J k := by
  refine (tt_f rfl).trans ?_
  refine (tt_al rfl).trans ?_
  refine (tt_f rfl).trans ?_
  refine (tt_gr rfl rfl).trans ?_
  refine (tt_f rfl).trans ?_
  refine (tt_il rfl).trans ?_
  refine (tt_f rfl).trans ?_
  refine tt_c.trans ?_
  refine (tt_f rfl).trans ?_
  exact tt_pa rfl rfl hi1
theorem B111_7 {l1 : Int32} {l2 : Int32} (hi1 : zin l1 20 = true) : zd S 111 7 [some (.ref 76), some (.int l1), some (.int l2), none, none] [] I J k = zd S 111 14 [some (.ref 76), some (.int l1), some (.int l2), none, none] [] (u2 I 92 l1.toNatClampNeg 0) J k := by
  refine (tt_f rfl).trans ?_
  refine (tt_al rfl).trans ?_
  refine (tt_f rfl).trans ?_
  refine (tt_gr rfl rfl).trans ?_
  refine (tt_f rfl).trans ?_
  refine (tt_il rfl).trans ?_
  refine (tt_f rfl).trans ?_
  refine tt_c.trans ?_
  refine (tt_f rfl).trans ?_
  exact tt_pa rfl rfl hi1
theorem B111_14 {l1 : Int32} {l2 : Int32}  : zd S 111 14 [some (.ref 76), some (.int l1), some (.int l2), none, none] [] I J k = zd S 111 16 [some (.ref 76), some (.int l1), some (.int l2), some (.int 1), none] [] I J k := by
  refine (tt_f rfl).trans ?_
  refine tt_c.trans ?_
  refine (tt_f rfl).trans ?_
  refine (tt_is rfl rfl).trans ?_
  rfl
theorem B111_16 {l1 : Int32} {l2 : Int32} {l3 : Int32}  : zd S 111 16 [some (.ref 76), some (.int l1), some (.int l2), some (.int l3), none] [] I J k = if 0 ≤ (I 76 23) then zd S 111 105 [some (.ref 76), some (.int l1), some (.int l2), some (.int l3), none] [] I J k else zd S 111 23 [some (.ref 76), some (.int l1), some (.int l2), some (.int l3), none] [] I J k := by
  refine (tt_fk rfl rfl).trans ?_
  refine (tt_al rfl).trans ?_
  refine (tt_f rfl).trans ?_
  refine (tt_gi rfl rfl).trans ?_
  refine (tt_f rfl).trans ?_
  exact tt_f1 (p := fun x => 0 ≤ x) inferInstance rfl
theorem B111_23 {l1 : Int32} {l2 : Int32} {l3 : Int32}  : zd S 111 23 [some (.ref 76), some (.int l1), some (.int l2), some (.int l3), none] [] I J k = if l3 = 0 then zd S 111 105 [some (.ref 76), some (.int l1), some (.int l2), some (.int l3), none] [] I J k else zd S 111 27 [some (.ref 76), some (.int l1), some (.int l2), some (.int l3), none] [] I J k := by
  refine (tt_f rfl).trans ?_
  refine (tt_il rfl).trans ?_
  refine (tt_f rfl).trans ?_
  exact tt_f1 (p := fun x => x = 0) inferInstance rfl
theorem B111_27 {l1 : Int32} {l2 : Int32} {l3 : Int32} {v1 : Int32} {I2 : zI} {J3 : zJ} (hb : Nat.ble k.1 (mBu 111).1 = true ∧ Nat.ble k.2 (mBu 111).2 = true) (hq : zq S 107 [.ref 76] I J (some (.int v1)) I2 J3) : zd S 111 27 [some (.ref 76), some (.int l1), some (.int l2), some (.int l3), none] [] I J k = zd S 111 31 [some (.ref 76), some (.int l1), some (.int l2), some (.int l3), none] [.int v1] I2 J3 k := by
  refine (tt_f rfl).trans ?_
  refine (tt_al rfl).trans ?_
  exact tt_cv (As := []) rfl hb.1 hb.2 rfl rfl rfl rfl rfl hq
theorem B111_31 {l1 : Int32} {l2 : Int32} {l3 : Int32} {t0 : Int32} {v1 : Int32} {I2 : zI} {J3 : zJ} (hb : Nat.ble k.1 (mBu 111).1 = true ∧ Nat.ble k.2 (mBu 111).2 = true) (hq : zq S 95 [.int t0] I J (some (.int v1)) I2 J3) : zd S 111 31 [some (.ref 76), some (.int l1), some (.int l2), some (.int l3), none] [.int t0] I J k = zd S 111 34 [some (.ref 76), some (.int l1), some (.int l2), some (.int l3), none] [.int v1] I2 J3 k := by
  exact tt_cs (vs := [.int t0]) rfl hb.1 hb.2 rfl rfl rfl rfl hq
theorem B111_34 {l1 : Int32} {l2 : Int32} {l3 : Int32} {t0 : Int32}  : zd S 111 34 [some (.ref 76), some (.int l1), some (.int l2), some (.int l3), none] [.int t0] I J k = if t0 = 0 then zd S 111 47 [some (.ref 76), some (.int l1), some (.int l2), some (.int l3), none] [] I J k else zd S 111 37 [some (.ref 76), some (.int l1), some (.int l2), some (.int l3), none] [] I J k := by
  refine (tt_f rfl).trans ?_
  exact tt_f1 (p := fun x => x = 0) inferInstance rfl
theorem B111_37 {l1 : Int32} {l2 : Int32} {l3 : Int32} (hi1 : zin l1 20 = true) : zd S 111 37 [some (.ref 76), some (.int l1), some (.int l2), some (.int l3), none] [] I J k = if ¬ (I 91 l1.toNatClampNeg) = l2 then zd S 111 54 [some (.ref 76), some (.int l1), some (.int l2), some (.int l3), none] [] I J k else zd S 111 47 [some (.ref 76), some (.int l1), some (.int l2), some (.int l3), none] [] I J k := by
  refine (tt_f rfl).trans ?_
  refine (tt_al rfl).trans ?_
  refine (tt_f rfl).trans ?_
  refine (tt_gr rfl rfl).trans ?_
  refine (tt_f rfl).trans ?_
  refine (tt_il rfl).trans ?_
  refine (tt_f rfl).trans ?_
  refine (tt_ga rfl rfl hi1).trans ?_
  refine (tt_f rfl).trans ?_
  refine (tt_il rfl).trans ?_
  refine (tt_f rfl).trans ?_
  exact tt_f2 (p := fun x y => ¬ x = y) inferInstance rfl
theorem B111_47 {l1 : Int32} {l2 : Int32} {l3 : Int32} {I1 : zI} {J2 : zJ} (hb : Nat.ble k.1 (mBu 111).1 = true ∧ Nat.ble k.2 (mBu 111).2 = true) (hq : zq S 108 [.ref 76] I J none I1 J2) : zd S 111 47 [some (.ref 76), some (.int l1), some (.int l2), some (.int l3), none] [] I J k = zd S 111 51 [some (.ref 76), some (.int l1), some (.int l2), some (.int l3), none] [] I1 J2 k := by
  refine (tt_fk rfl rfl).trans ?_
  refine (tt_al rfl).trans ?_
  exact tt_cv (As := []) rfl hb.1 hb.2 rfl rfl rfl rfl rfl hq
theorem B111_51 {l1 : Int32} {l2 : Int32} {l3 : Int32}  : zd S 111 51 [some (.ref 76), some (.int l1), some (.int l2), some (.int l3), none] [] I J k = zd S 111 16 [some (.ref 76), some (.int l1), some (.int l2), some (.int l3), none] [] I J k := by
  refine (tt_f rfl).trans ?_
  refine tt_go.trans ?_
  rfl
theorem B111_54 {l1 : Int32} {l2 : Int32} {l3 : Int32} {I1 : zI} {J2 : zJ} (hb : Nat.ble k.1 (mBu 111).1 = true ∧ Nat.ble k.2 (mBu 111).2 = true) (hq : zq S 110 [.ref 76, .int l1] I J none I1 J2) : zd S 111 54 [some (.ref 76), some (.int l1), some (.int l2), some (.int l3), none] [] I J k = zd S 111 59 [some (.ref 76), some (.int l1), some (.int l2), some (.int l3), none] [] I1 J2 k := by
  refine (tt_f rfl).trans ?_
  refine (tt_al rfl).trans ?_
  refine (tt_f rfl).trans ?_
  refine (tt_il rfl).trans ?_
  exact tt_cv (As := [.int l1]) rfl hb.1 hb.2 rfl rfl rfl rfl rfl hq
theorem B111_59 {l1 : Int32} {l2 : Int32} {l3 : Int32} {v1 : Int32} {I2 : zI} {J3 : zJ} (hb : Nat.ble k.1 (mBu 111).1 = true ∧ Nat.ble k.2 (mBu 111).2 = true) (hq : zq S 107 [.ref 76] I J (some (.int v1)) I2 J3) : zd S 111 59 [some (.ref 76), some (.int l1), some (.int l2), some (.int l3), none] [] I J k = zd S 111 63 [some (.ref 76), some (.int l1), some (.int l2), some (.int l3), none] [.int v1] I2 J3 k := by
  refine (tt_f rfl).trans ?_
  refine (tt_al rfl).trans ?_
  exact tt_cv (As := []) rfl hb.1 hb.2 rfl rfl rfl rfl rfl hq
theorem B111_63 {l1 : Int32} {l2 : Int32} {l3 : Int32} {t0 : Int32}  : zd S 111 63 [some (.ref 76), some (.int l1), some (.int l2), some (.int l3), none] [.int t0] I J k = if ¬ t0 = 32 then zd S 111 72 [some (.ref 76), some (.int l1), some (.int l2), some (.int l3), none] [] I J k else zd S 111 68 [some (.ref 76), some (.int l1), some (.int l2), some (.int l3), none] [] I J k := by
  refine (tt_f rfl).trans ?_
  refine tt_c.trans ?_
  refine (tt_f rfl).trans ?_
  exact tt_f2 (p := fun x y => ¬ x = y) inferInstance rfl
theorem B111_68 {l1 : Int32} {l2 : Int32} {l3 : Int32}  : zd S 111 68 [some (.ref 76), some (.int l1), some (.int l2), some (.int l3), none] [] I J k = if 1 = 0 then zd S 111 95 [some (.ref 76), some (.int l1), some (.int l2), some (.int 1), none] [.ref 76] I J k else zd S 111 79 [some (.ref 76), some (.int l1), some (.int l2), some (.int 1), none] [.ref 76] I J k := by
  refine (tt_f rfl).trans ?_
  refine tt_c.trans ?_
  refine (tt_f rfl).trans ?_
  refine tt_go.trans ?_
  refine (tt_fk rfl rfl).trans ?_
  refine (tt_is rfl rfl).trans ?_
  refine (tt_f rfl).trans ?_
  refine (tt_al rfl).trans ?_
  refine (tt_f rfl).trans ?_
  refine (tt_il rfl).trans ?_
  refine (tt_f rfl).trans ?_
  exact tt_f1 (p := fun x => x = 0) inferInstance rfl
theorem B111_72 {l1 : Int32} {l2 : Int32} {l3 : Int32}  : zd S 111 72 [some (.ref 76), some (.int l1), some (.int l2), some (.int l3), none] [] I J k = if 0 = 0 then zd S 111 95 [some (.ref 76), some (.int l1), some (.int l2), some (.int 0), none] [.ref 76] I J k else zd S 111 79 [some (.ref 76), some (.int l1), some (.int l2), some (.int 0), none] [.ref 76] I J k := by
  refine (tt_f rfl).trans ?_
  refine tt_c.trans ?_
  refine (tt_fk rfl rfl).trans ?_
  refine (tt_is rfl rfl).trans ?_
  refine (tt_f rfl).trans ?_
  refine (tt_al rfl).trans ?_
  refine (tt_f rfl).trans ?_
  refine (tt_il rfl).trans ?_
  refine (tt_f rfl).trans ?_
  exact tt_f1 (p := fun x => x = 0) inferInstance rfl
theorem B111_79 {l1 : Int32} {l2 : Int32} {l3 : Int32}  : zd S 111 79 [some (.ref 76), some (.int l1), some (.int l2), some (.int l3), none] [.ref 76] I J k = if 0 ≤ (I 76 23) then zd S 111 95 [some (.ref 76), some (.int l1), some (.int l2), some (.int l3), none] [.ref 76] I J k else zd S 111 86 [some (.ref 76), some (.int l1), some (.int l2), some (.int l3), none] [.ref 76] I J k := by
  refine (tt_f rfl).trans ?_
  refine (tt_al rfl).trans ?_
  refine (tt_f rfl).trans ?_
  refine (tt_gi rfl rfl).trans ?_
  refine (tt_f rfl).trans ?_
  exact tt_f1 (p := fun x => 0 ≤ x) inferInstance rfl
theorem B111_86 {l1 : Int32} {l2 : Int32} {l3 : Int32}  : zd S 111 86 [some (.ref 76), some (.int l1), some (.int l2), some (.int l3), none] [.ref 76] I J k = zd S 111 102 [some (.ref 76), some (.int l1), some (.int l2), some (.int l3), none] [] (u2 I 76 22 ((I 76 22) + 1)) J k := by
  refine (tt_f rfl).trans ?_
  refine (tt_al rfl).trans ?_
  refine (tt_f rfl).trans ?_
  refine (tt_gi rfl rfl).trans ?_
  refine (tt_f rfl).trans ?_
  refine tt_c.trans ?_
  refine (tt_f rfl).trans ?_
  refine tt_bi.trans ?_
  refine (tt_f rfl).trans ?_
  refine tt_go.trans ?_
  refine (tt_fk rfl rfl).trans ?_
  exact tt_pi rfl rfl rfl
theorem B111_95 {l1 : Int32} {l2 : Int32} {l3 : Int32}  : zd S 111 95 [some (.ref 76), some (.int l1), some (.int l2), some (.int l3), none] [.ref 76] I J k = zd S 111 102 [some (.ref 76), some (.int l1), some (.int l2), some (.int l3), none] [] (u2 I 76 22 (I 76 22)) J k := by
  refine (tt_fk rfl rfl).trans ?_
  refine (tt_al rfl).trans ?_
  refine (tt_f rfl).trans ?_
  refine (tt_gi rfl rfl).trans ?_
  refine (tt_fk rfl rfl).trans ?_
  exact tt_pi rfl rfl rfl
theorem B111_102 {l1 : Int32} {l2 : Int32} {l3 : Int32}  : zd S 111 102 [some (.ref 76), some (.int l1), some (.int l2), some (.int l3), none] [] I J k = zd S 111 16 [some (.ref 76), some (.int l1), some (.int l2), some (.int l3), none] [] I J k := by
  refine (tt_f rfl).trans ?_
  refine tt_go.trans ?_
  rfl
theorem B111_105 {l1 : Int32} {l2 : Int32} {l3 : Int32}  : zd S 111 105 [some (.ref 76), some (.int l1), some (.int l2), some (.int l3), none] [] I J k = if 0 ≤ (I 76 23) then zd S 111 122 [some (.ref 76), none, none, none, none] [] I J k else zd S 111 112 [some (.ref 76), none, none, none, none] [] I J k := by
  refine (tt_fk rfl rfl).trans ?_
  refine (tt_al rfl).trans ?_
  refine (tt_f rfl).trans ?_
  refine (tt_gi rfl rfl).trans ?_
  refine (tt_f rfl).trans ?_
  exact tt_f1 (p := fun x => 0 ≤ x) inferInstance rfl
theorem B111_112 {v1 : Int32} {I2 : zI} {J3 : zJ} (hb : Nat.ble k.1 (mBu 111).1 = true ∧ Nat.ble k.2 (mBu 111).2 = true) (hq : zq S 109 [.ref 76, .int 10, .int 10] I J (some (.int v1)) I2 J3) : zd S 111 112 [some (.ref 76), none, none, none, none] [] I J k = zd S 111 120 [some (.ref 76), none, none, none, none] [.int v1] I2 J3 k := by
  refine (tt_f rfl).trans ?_
  refine (tt_al rfl).trans ?_
  refine (tt_f rfl).trans ?_
  refine tt_c.trans ?_
  refine (tt_f rfl).trans ?_
  refine tt_c.trans ?_
  exact tt_cv (As := [.int 10, .int 10]) rfl hb.1 hb.2 rfl rfl rfl rfl rfl hq
theorem B111_120 {t0 : Int32}  : zd S 111 120 [some (.ref 76), none, none, none, none] [.int t0] I J k = some (none, mk I J, k) := by
  refine (tt_f rfl).trans ?_
  refine (tt_is rfl rfl).trans ?_
  exact tt_rv rfl
theorem B111_122   : zd S 111 122 [some (.ref 76), none, none, none, none] [] I J k = some (none, mk I J, k) := by
  exact tt_rv rfl
/-! 112: EditionGridModel.readFigure -/
theorem B112_0 {l1 : Int32} (hi1 : zin l1 4 = true) : zd S 112 0 [some (.ref 76), some (.int l1), none, none, none] [] I J k = if (I 86 l1.toNatClampNeg) ≤ 0 then zd S 112 14 [some (.ref 76), some (.int l1), none, none, none] [] I J k else zd S 112 9 [some (.ref 76), some (.int l1), none, none, none] [] I J k := by
  refine (tt_f rfl).trans ?_
  refine (tt_al rfl).trans ?_
  refine (tt_f rfl).trans ?_
  refine (tt_gr rfl rfl).trans ?_
  refine (tt_f rfl).trans ?_
  refine (tt_il rfl).trans ?_
  refine (tt_f rfl).trans ?_
  refine (tt_ga rfl rfl hi1).trans ?_
  refine (tt_f rfl).trans ?_
  exact tt_f1 (p := fun x => x ≤ 0) inferInstance rfl
theorem B112_9 {l1 : Int32} {I1 : zI} {J2 : zJ} (hb : Nat.ble k.1 (mBu 112).1 = true ∧ Nat.ble k.2 (mBu 112).2 = true) (hq : zq S 108 [.ref 76] I J none I1 J2) : zd S 112 9 [some (.ref 76), some (.int l1), none, none, none] [] I J k = zd S 112 13 [some (.ref 76), some (.int l1), none, none, none] [] I1 J2 k := by
  refine (tt_f rfl).trans ?_
  refine (tt_al rfl).trans ?_
  exact tt_cv (As := []) rfl hb.1 hb.2 rfl rfl rfl rfl rfl hq
theorem B112_13 {l1 : Int32}  : zd S 112 13 [some (.ref 76), some (.int l1), none, none, none] [] I J k = some (none, mk I J, k) := by
  exact tt_rv rfl
theorem B112_14 {l1 : Int32}  : zd S 112 14 [some (.ref 76), some (.int l1), none, none, none] [] I J k = zd S 112 24 [some (.ref 76), some (.int l1), none, none, none] [] (u2 I 76 22 ((I 76 22) + 1)) J k := by
  refine (tt_f rfl).trans ?_
  refine (tt_al rfl).trans ?_
  refine (tt_f rfl).trans ?_
  refine (tt_dup rfl).trans ?_
  refine (tt_f rfl).trans ?_
  refine (tt_gi rfl rfl).trans ?_
  refine (tt_f rfl).trans ?_
  refine tt_c.trans ?_
  refine (tt_f rfl).trans ?_
  refine tt_bi.trans ?_
  refine (tt_f rfl).trans ?_
  exact tt_pi rfl rfl rfl
theorem B112_24 {l1 : Int32} {v1 : Int32} {I2 : zI} {J3 : zJ} (hb : Nat.ble k.1 (mBu 112).1 = true ∧ Nat.ble k.2 (mBu 112).2 = true) (hq : zq S 109 [.ref 76, .int 49, .int 57] I J (some (.int v1)) I2 J3) : zd S 112 24 [some (.ref 76), some (.int l1), none, none, none] [] I J k = zd S 112 32 [some (.ref 76), some (.int l1), none, none, none] [.int v1] I2 J3 k := by
  refine (tt_f rfl).trans ?_
  refine (tt_al rfl).trans ?_
  refine (tt_f rfl).trans ?_
  refine tt_c.trans ?_
  refine (tt_f rfl).trans ?_
  refine tt_c.trans ?_
  exact tt_cv (As := [.int 49, .int 57]) rfl hb.1 hb.2 rfl rfl rfl rfl rfl hq
theorem B112_32 {l1 : Int32} {t0 : Int32}  : zd S 112 32 [some (.ref 76), some (.int l1), none, none, none] [.int t0] I J k = if 0 ≤ (I 76 23) then zd S 112 51 [some (.ref 76), some (.int l1), some (.int t0), none, none] [] I J k else zd S 112 40 [some (.ref 76), some (.int l1), some (.int t0), none, none] [] I J k := by
  refine (tt_f rfl).trans ?_
  refine (tt_is rfl rfl).trans ?_
  refine (tt_f rfl).trans ?_
  refine (tt_al rfl).trans ?_
  refine (tt_f rfl).trans ?_
  refine (tt_gi rfl rfl).trans ?_
  refine (tt_f rfl).trans ?_
  exact tt_f1 (p := fun x => 0 ≤ x) inferInstance rfl
theorem B112_40 {l1 : Int32} {l2 : Int32} {v1 : Int32} {I2 : zI} {J3 : zJ} (hb : Nat.ble k.1 (mBu 112).1 = true ∧ Nat.ble k.2 (mBu 112).2 = true) (hq : zq S 109 [.ref 76, .int 49, .int 57] I J (some (.int v1)) I2 J3) : zd S 112 40 [some (.ref 76), some (.int l1), some (.int l2), none, none] [] I J k = zd S 112 48 [some (.ref 76), some (.int l1), some (.int l2), none, none] [.int v1] I2 J3 k := by
  refine (tt_f rfl).trans ?_
  refine (tt_al rfl).trans ?_
  refine (tt_f rfl).trans ?_
  refine tt_c.trans ?_
  refine (tt_f rfl).trans ?_
  refine tt_c.trans ?_
  exact tt_cv (As := [.int 49, .int 57]) rfl hb.1 hb.2 rfl rfl rfl rfl rfl hq
theorem B112_48 {l1 : Int32} {l2 : Int32} {t0 : Int32}  : zd S 112 48 [some (.ref 76), some (.int l1), some (.int l2), none, none] [.int t0] I J k = if 0 ≤ (I 76 23) then zd S 112 71 [some (.ref 76), some (.int l1), some (.int l2), some (.int t0), none] [] I J k else zd S 112 60 [some (.ref 76), some (.int l1), some (.int l2), some (.int t0), none] [] I J k := by
  refine (tt_f rfl).trans ?_
  refine tt_go.trans ?_
  refine (tt_fk rfl rfl).trans ?_
  refine (tt_is rfl rfl).trans ?_
  refine (tt_f rfl).trans ?_
  refine (tt_al rfl).trans ?_
  refine (tt_f rfl).trans ?_
  refine (tt_gi rfl rfl).trans ?_
  refine (tt_f rfl).trans ?_
  exact tt_f1 (p := fun x => 0 ≤ x) inferInstance rfl
theorem B112_51 {l1 : Int32} {l2 : Int32}  : zd S 112 51 [some (.ref 76), some (.int l1), some (.int l2), none, none] [] I J k = if 0 ≤ (I 76 23) then zd S 112 71 [some (.ref 76), some (.int l1), some (.int l2), some (.int 0), none] [] I J k else zd S 112 60 [some (.ref 76), some (.int l1), some (.int l2), some (.int 0), none] [] I J k := by
  refine (tt_f rfl).trans ?_
  refine tt_c.trans ?_
  refine (tt_fk rfl rfl).trans ?_
  refine (tt_is rfl rfl).trans ?_
  refine (tt_f rfl).trans ?_
  refine (tt_al rfl).trans ?_
  refine (tt_f rfl).trans ?_
  refine (tt_gi rfl rfl).trans ?_
  refine (tt_f rfl).trans ?_
  exact tt_f1 (p := fun x => 0 ≤ x) inferInstance rfl
theorem B112_60 {l1 : Int32} {l2 : Int32} {l3 : Int32} {v1 : Int32} {I2 : zI} {J3 : zJ} (hb : Nat.ble k.1 (mBu 112).1 = true ∧ Nat.ble k.2 (mBu 112).2 = true) (hq : zq S 109 [.ref 76, .int 10, .int 10] I J (some (.int v1)) I2 J3) : zd S 112 60 [some (.ref 76), some (.int l1), some (.int l2), some (.int l3), none] [] I J k = zd S 112 68 [some (.ref 76), some (.int l1), some (.int l2), some (.int l3), none] [.int v1] I2 J3 k := by
  refine (tt_f rfl).trans ?_
  refine (tt_al rfl).trans ?_
  refine (tt_f rfl).trans ?_
  refine tt_c.trans ?_
  refine (tt_f rfl).trans ?_
  refine tt_c.trans ?_
  exact tt_cv (As := [.int 10, .int 10]) rfl hb.1 hb.2 rfl rfl rfl rfl rfl hq
theorem B112_68 {l1 : Int32} {l2 : Int32} {l3 : Int32} {t0 : Int32} (hi1 : zin l1 4 = true) : zd S 112 68 [some (.ref 76), some (.int l1), some (.int l2), some (.int l3), none] [.int t0] I J k = zd S 112 84 [some (.ref 76), some (.int l1), some (.int l2), some (.int l3), some (.int t0)] [] (u2 I 86 l1.toNatClampNeg (l2 - 48)) J k := by
  refine (tt_f rfl).trans ?_
  refine tt_go.trans ?_
  refine (tt_fk rfl rfl).trans ?_
  refine (tt_is rfl rfl).trans ?_
  refine (tt_f rfl).trans ?_
  refine (tt_al rfl).trans ?_
  refine (tt_f rfl).trans ?_
  refine (tt_gr rfl rfl).trans ?_
  refine (tt_f rfl).trans ?_
  refine (tt_il rfl).trans ?_
  refine (tt_f rfl).trans ?_
  refine (tt_il rfl).trans ?_
  refine (tt_f rfl).trans ?_
  refine tt_c.trans ?_
  refine (tt_f rfl).trans ?_
  refine tt_bi.trans ?_
  refine (tt_f rfl).trans ?_
  exact tt_pa rfl rfl hi1
theorem B112_71 {l1 : Int32} {l2 : Int32} {l3 : Int32} (hi1 : zin l1 4 = true) : zd S 112 71 [some (.ref 76), some (.int l1), some (.int l2), some (.int l3), none] [] I J k = zd S 112 84 [some (.ref 76), some (.int l1), some (.int l2), some (.int l3), some (.int 0)] [] (u2 I 86 l1.toNatClampNeg (l2 - 48)) J k := by
  refine (tt_f rfl).trans ?_
  refine tt_c.trans ?_
  refine (tt_fk rfl rfl).trans ?_
  refine (tt_is rfl rfl).trans ?_
  refine (tt_f rfl).trans ?_
  refine (tt_al rfl).trans ?_
  refine (tt_f rfl).trans ?_
  refine (tt_gr rfl rfl).trans ?_
  refine (tt_f rfl).trans ?_
  refine (tt_il rfl).trans ?_
  refine (tt_f rfl).trans ?_
  refine (tt_il rfl).trans ?_
  refine (tt_f rfl).trans ?_
  refine tt_c.trans ?_
  refine (tt_f rfl).trans ?_
  refine tt_bi.trans ?_
  refine (tt_f rfl).trans ?_
  exact tt_pa rfl rfl hi1
theorem B112_84 {l1 : Int32} {l2 : Int32} {l3 : Int32} {l4 : Int32} (hi1 : zin l1 4 = true) : zd S 112 84 [some (.ref 76), some (.int l1), some (.int l2), some (.int l3), some (.int l4)] [] I J k = zd S 112 94 [some (.ref 76), some (.int l1), some (.int l2), some (.int l3), some (.int l4)] [] (u2 I 87 l1.toNatClampNeg (l3 - 48)) J k := by
  refine (tt_f rfl).trans ?_
  refine (tt_al rfl).trans ?_
  refine (tt_f rfl).trans ?_
  refine (tt_gr rfl rfl).trans ?_
  refine (tt_f rfl).trans ?_
  refine (tt_il rfl).trans ?_
  refine (tt_f rfl).trans ?_
  refine (tt_il rfl).trans ?_
  refine (tt_f rfl).trans ?_
  refine tt_c.trans ?_
  refine (tt_f rfl).trans ?_
  refine tt_bi.trans ?_
  refine (tt_f rfl).trans ?_
  exact tt_pa rfl rfl hi1
theorem B112_94 {l1 : Int32} {l2 : Int32} {l3 : Int32} {l4 : Int32}  : zd S 112 94 [some (.ref 76), some (.int l1), some (.int l2), some (.int l3), some (.int l4)] [] I J k = some (none, mk I J, k) := by
  exact tt_rv rfl
/-! 113: EditionGridModel.readPart -/
theorem B113_0 {l1 : Int32} {v1 : Int32} {I2 : zI} {J3 : zJ} (hb : Nat.ble k.1 (mBu 113).1 = true ∧ Nat.ble k.2 (mBu 113).2 = true) (hq : zq S 107 [.ref 76] I J (some (.int v1)) I2 J3) : zd S 113 0 [some (.ref 76), some (.int l1)] [] I J k = zd S 113 4 [some (.ref 76), some (.int l1)] [.int v1] I2 J3 k := by
  refine (tt_f rfl).trans ?_
  refine (tt_al rfl).trans ?_
  exact tt_cv (As := []) rfl hb.1 hb.2 rfl rfl rfl rfl rfl hq
theorem B113_4 {l1 : Int32} {t0 : Int32}  : zd S 113 4 [some (.ref 76), some (.int l1)] [.int t0] I J k = if ¬ t0 = 61 then zd S 113 17 [some (.ref 76), some (.int l1)] [] I J k else zd S 113 9 [some (.ref 76), some (.int l1)] [] I J k := by
  refine (tt_f rfl).trans ?_
  refine tt_c.trans ?_
  refine (tt_f rfl).trans ?_
  exact tt_f2 (p := fun x y => ¬ x = y) inferInstance rfl
theorem B113_9 {l1 : Int32} {I1 : zI} {J2 : zJ} (hb : Nat.ble k.1 (mBu 113).1 = true ∧ Nat.ble k.2 (mBu 113).2 = true) (hq : zq S 112 [.ref 76, .int l1] I J none I1 J2) : zd S 113 9 [some (.ref 76), some (.int l1)] [] I J k = zd S 113 14 [some (.ref 76), some (.int l1)] [] I1 J2 k := by
  refine (tt_f rfl).trans ?_
  refine (tt_al rfl).trans ?_
  refine (tt_f rfl).trans ?_
  refine (tt_il rfl).trans ?_
  exact tt_cv (As := [.int l1]) rfl hb.1 hb.2 rfl rfl rfl rfl rfl hq
theorem B113_14 {l1 : Int32}  : zd S 113 14 [some (.ref 76), some (.int l1)] [] I J k = some (none, mk I J, k) := by
  refine (tt_f rfl).trans ?_
  refine tt_go.trans ?_
  exact tt_rv rfl
theorem B113_17 {l1 : Int32} {v1 : Int32} {I2 : zI} {J3 : zJ} (hb : Nat.ble k.1 (mBu 113).1 = true ∧ Nat.ble k.2 (mBu 113).2 = true) (hq : zq S 107 [.ref 76] I J (some (.int v1)) I2 J3) : zd S 113 17 [some (.ref 76), some (.int l1)] [] I J k = zd S 113 21 [some (.ref 76), some (.int l1)] [.int v1] I2 J3 k := by
  refine (tt_f rfl).trans ?_
  refine (tt_al rfl).trans ?_
  exact tt_cv (As := []) rfl hb.1 hb.2 rfl rfl rfl rfl rfl hq
theorem B113_21 {l1 : Int32} {t0 : Int32} {v1 : Int32} {I2 : zI} {J3 : zJ} (hb : Nat.ble k.1 (mBu 113).1 = true ∧ Nat.ble k.2 (mBu 113).2 = true) (hq : zq S 95 [.int t0] I J (some (.int v1)) I2 J3) : zd S 113 21 [some (.ref 76), some (.int l1)] [.int t0] I J k = zd S 113 24 [some (.ref 76), some (.int l1)] [.int v1] I2 J3 k := by
  exact tt_cs (vs := [.int t0]) rfl hb.1 hb.2 rfl rfl rfl rfl hq
theorem B113_24 {l1 : Int32} {t0 : Int32}  : zd S 113 24 [some (.ref 76), some (.int l1)] [.int t0] I J k = if t0 = 0 then zd S 113 66 [some (.ref 76), some (.int l1)] [] I J k else zd S 113 27 [some (.ref 76), some (.int l1)] [] I J k := by
  refine (tt_f rfl).trans ?_
  exact tt_f1 (p := fun x => x = 0) inferInstance rfl
theorem B113_27 {l1 : Int32} (hi1 : zin l1 4 = true) : zd S 113 27 [some (.ref 76), some (.int l1)] [] I J k = if 4 ≤ (I 88 l1.toNatClampNeg) then zd S 113 66 [some (.ref 76), some (.int l1)] [] I J k else zd S 113 37 [some (.ref 76), some (.int l1)] [] I J k := by
  refine (tt_f rfl).trans ?_
  refine (tt_al rfl).trans ?_
  refine (tt_f rfl).trans ?_
  refine (tt_gr rfl rfl).trans ?_
  refine (tt_f rfl).trans ?_
  refine (tt_il rfl).trans ?_
  refine (tt_f rfl).trans ?_
  refine (tt_ga rfl rfl hi1).trans ?_
  refine (tt_f rfl).trans ?_
  refine tt_c.trans ?_
  refine (tt_f rfl).trans ?_
  exact tt_f2 (p := fun x y => y ≤ x) inferInstance rfl
theorem B113_37 {l1 : Int32} {I2 : zI} {J3 : zJ} (hb : Nat.ble k.1 (mBu 113).1 = true ∧ Nat.ble k.2 (mBu 113).2 = true) (hi1 : zin l1 4 = true) (hq : zq S 111 [.ref 76, .int ((4 * l1) + (I 88 l1.toNatClampNeg)), .int 16] I J none I2 J3) : zd S 113 37 [some (.ref 76), some (.int l1)] [] I J k = zd S 113 53 [some (.ref 76), some (.int l1)] [] I2 J3 k := by
  refine (tt_f rfl).trans ?_
  refine (tt_al rfl).trans ?_
  refine (tt_f rfl).trans ?_
  refine tt_c.trans ?_
  refine (tt_f rfl).trans ?_
  refine (tt_il rfl).trans ?_
  refine (tt_f rfl).trans ?_
  refine tt_bi.trans ?_
  refine (tt_f rfl).trans ?_
  refine (tt_al rfl).trans ?_
  refine (tt_f rfl).trans ?_
  refine (tt_gr rfl rfl).trans ?_
  refine (tt_f rfl).trans ?_
  refine (tt_il rfl).trans ?_
  refine (tt_f rfl).trans ?_
  refine (tt_ga rfl rfl hi1).trans ?_
  refine (tt_f rfl).trans ?_
  refine tt_bi.trans ?_
  refine (tt_f rfl).trans ?_
  refine tt_c.trans ?_
  exact tt_cv (As := [.int ((4 * l1) + (I 88 l1.toNatClampNeg)), .int 16]) rfl hb.1 hb.2 rfl rfl rfl rfl rfl hq
theorem B113_53 {l1 : Int32} (hi1 : zin l1 4 = true) (hi2 : zin l1 4 = true) : zd S 113 53 [some (.ref 76), some (.int l1)] [] I J k = zd S 113 63 [some (.ref 76), some (.int l1)] [] (u2 I 88 l1.toNatClampNeg ((I 88 l1.toNatClampNeg) + 1)) J k := by
  refine (tt_f rfl).trans ?_
  refine (tt_al rfl).trans ?_
  refine (tt_f rfl).trans ?_
  refine (tt_gr rfl rfl).trans ?_
  refine (tt_f rfl).trans ?_
  refine (tt_il rfl).trans ?_
  refine (tt_f rfl).trans ?_
  refine (tt_d2 rfl rfl).trans ?_
  refine (tt_f rfl).trans ?_
  refine (tt_ga rfl rfl hi1).trans ?_
  refine (tt_f rfl).trans ?_
  refine tt_c.trans ?_
  refine (tt_f rfl).trans ?_
  refine tt_bi.trans ?_
  refine (tt_f rfl).trans ?_
  exact tt_pa rfl rfl hi2
theorem B113_63 {l1 : Int32}  : zd S 113 63 [some (.ref 76), some (.int l1)] [] I J k = some (none, mk I J, k) := by
  refine (tt_f rfl).trans ?_
  refine tt_go.trans ?_
  exact tt_rv rfl
theorem B113_66 {l1 : Int32} {I1 : zI} {J2 : zJ} (hb : Nat.ble k.1 (mBu 113).1 = true ∧ Nat.ble k.2 (mBu 113).2 = true) (hq : zq S 108 [.ref 76] I J none I1 J2) : zd S 113 66 [some (.ref 76), some (.int l1)] [] I J k = zd S 113 70 [some (.ref 76), none] [] I1 J2 k := by
  refine (tt_fk rfl rfl).trans ?_
  refine (tt_al rfl).trans ?_
  exact tt_cv (As := []) rfl hb.1 hb.2 rfl rfl rfl rfl rfl hq
theorem B113_70   : zd S 113 70 [some (.ref 76), none] [] I J k = some (none, mk I J, k) := by
  exact tt_rv rfl
/-! 114: EditionGridModel.readStory -/
theorem B114_0 {v1 : Int32} {I2 : zI} {J3 : zJ} (hb : Nat.ble k.1 (mBu 114).1 = true ∧ Nat.ble k.2 (mBu 114).2 = true) (hq : zq S 107 [.ref 76] I J (some (.int v1)) I2 J3) : zd S 114 0 [some (.ref 76), none, none, none] [] I J k = zd S 114 4 [some (.ref 76), none, none, none] [.int v1] I2 J3 k := by
  refine (tt_f rfl).trans ?_
  refine (tt_al rfl).trans ?_
  exact tt_cv (As := []) rfl hb.1 hb.2 rfl rfl rfl rfl rfl hq
theorem B114_4 {t0 : Int32}  : zd S 114 4 [some (.ref 76), none, none, none] [.int t0] I J k = if ¬ t0 = 35 then zd S 114 17 [some (.ref 76), none, none, none] [] I J k else zd S 114 9 [some (.ref 76), none, none, none] [] I J k := by
  refine (tt_f rfl).trans ?_
  refine tt_c.trans ?_
  refine (tt_f rfl).trans ?_
  exact tt_f2 (p := fun x y => ¬ x = y) inferInstance rfl
theorem B114_9   : zd S 114 9 [some (.ref 76), none, none, none] [] I J k = if ¬ (I 76 13) = 4 then zd S 114 22 [some (.ref 76), none, none, none] [] I J k else zd S 114 17 [some (.ref 76), none, none, none] [] I J k := by
  refine (tt_f rfl).trans ?_
  refine (tt_al rfl).trans ?_
  refine (tt_f rfl).trans ?_
  refine (tt_gi rfl rfl).trans ?_
  refine (tt_f rfl).trans ?_
  refine tt_c.trans ?_
  refine (tt_f rfl).trans ?_
  exact tt_f2 (p := fun x y => ¬ x = y) inferInstance rfl
theorem B114_17 {I1 : zI} {J2 : zJ} (hb : Nat.ble k.1 (mBu 114).1 = true ∧ Nat.ble k.2 (mBu 114).2 = true) (hq : zq S 108 [.ref 76] I J none I1 J2) : zd S 114 17 [some (.ref 76), none, none, none] [] I J k = zd S 114 21 [some (.ref 76), none, none, none] [] I1 J2 k := by
  refine (tt_fk rfl rfl).trans ?_
  refine (tt_al rfl).trans ?_
  exact tt_cv (As := []) rfl hb.1 hb.2 rfl rfl rfl rfl rfl hq
theorem B114_21   : zd S 114 21 [some (.ref 76), none, none, none] [] I J k = some (none, mk I J, k) := by
  exact tt_rv rfl
theorem B114_22   : zd S 114 22 [some (.ref 76), none, none, none] [] I J k = zd S 114 37 [some (.ref 76), some (.int (I 76 13)), none, none] [] (u2 I 76 22 ((I 76 22) + 1)) J k := by
  refine (tt_f rfl).trans ?_
  refine (tt_al rfl).trans ?_
  refine (tt_f rfl).trans ?_
  refine (tt_gi rfl rfl).trans ?_
  refine (tt_f rfl).trans ?_
  refine (tt_is rfl rfl).trans ?_
  refine (tt_f rfl).trans ?_
  refine (tt_al rfl).trans ?_
  refine (tt_f rfl).trans ?_
  refine (tt_dup rfl).trans ?_
  refine (tt_f rfl).trans ?_
  refine (tt_gi rfl rfl).trans ?_
  refine (tt_f rfl).trans ?_
  refine tt_c.trans ?_
  refine (tt_f rfl).trans ?_
  refine tt_bi.trans ?_
  refine (tt_f rfl).trans ?_
  exact tt_pi rfl rfl rfl
theorem B114_37 {l1 : Int32} {v1 : Int32} {I2 : zI} {J3 : zJ} (hb : Nat.ble k.1 (mBu 114).1 = true ∧ Nat.ble k.2 (mBu 114).2 = true) (hq : zq S 109 [.ref 76, .int 48, .int 57] I J (some (.int v1)) I2 J3) : zd S 114 37 [some (.ref 76), some (.int l1), none, none] [] I J k = zd S 114 45 [some (.ref 76), some (.int l1), none, none] [.int v1] I2 J3 k := by
  refine (tt_f rfl).trans ?_
  refine (tt_al rfl).trans ?_
  refine (tt_f rfl).trans ?_
  refine tt_c.trans ?_
  refine (tt_f rfl).trans ?_
  refine tt_c.trans ?_
  exact tt_cv (As := [.int 48, .int 57]) rfl hb.1 hb.2 rfl rfl rfl rfl rfl hq
theorem B114_45 {l1 : Int32} {t0 : Int32} (hi1 : zin l1 4 = true) : zd S 114 45 [some (.ref 76), some (.int l1), none, none] [.int t0] I J k = zd S 114 56 [some (.ref 76), some (.int l1), some (.int t0), none] [] (u2 I 85 l1.toNatClampNeg (t0 - 48)) J k := by
  refine (tt_f rfl).trans ?_
  refine (tt_is rfl rfl).trans ?_
  refine (tt_f rfl).trans ?_
  refine (tt_al rfl).trans ?_
  refine (tt_f rfl).trans ?_
  refine (tt_gr rfl rfl).trans ?_
  refine (tt_f rfl).trans ?_
  refine (tt_il rfl).trans ?_
  refine (tt_f rfl).trans ?_
  refine (tt_il rfl).trans ?_
  refine (tt_f rfl).trans ?_
  refine tt_c.trans ?_
  refine (tt_f rfl).trans ?_
  refine tt_bi.trans ?_
  refine (tt_f rfl).trans ?_
  exact tt_pa rfl rfl hi1
theorem B114_56 {l1 : Int32} {l2 : Int32} (hi1 : zin l1 4 = true) : zd S 114 56 [some (.ref 76), some (.int l1), some (.int l2), none] [] I J k = zd S 114 63 [some (.ref 76), some (.int l1), some (.int l2), none] [] (u2 I 86 l1.toNatClampNeg 0) J k := by
  refine (tt_f rfl).trans ?_
  refine (tt_al rfl).trans ?_
  refine (tt_f rfl).trans ?_
  refine (tt_gr rfl rfl).trans ?_
  refine (tt_f rfl).trans ?_
  refine (tt_il rfl).trans ?_
  refine (tt_f rfl).trans ?_
  refine tt_c.trans ?_
  refine (tt_f rfl).trans ?_
  exact tt_pa rfl rfl hi1
theorem B114_63 {l1 : Int32} {l2 : Int32} (hi1 : zin l1 4 = true) : zd S 114 63 [some (.ref 76), some (.int l1), some (.int l2), none] [] I J k = zd S 114 70 [some (.ref 76), some (.int l1), some (.int l2), none] [] (u2 I 87 l1.toNatClampNeg 0) J k := by
  refine (tt_f rfl).trans ?_
  refine (tt_al rfl).trans ?_
  refine (tt_f rfl).trans ?_
  refine (tt_gr rfl rfl).trans ?_
  refine (tt_f rfl).trans ?_
  refine (tt_il rfl).trans ?_
  refine (tt_f rfl).trans ?_
  refine tt_c.trans ?_
  refine (tt_f rfl).trans ?_
  exact tt_pa rfl rfl hi1
theorem B114_70 {l1 : Int32} {l2 : Int32} (hi1 : zin l1 4 = true) : zd S 114 70 [some (.ref 76), some (.int l1), some (.int l2), none] [] I J k = zd S 114 77 [some (.ref 76), some (.int l1), some (.int l2), none] [] (u2 I 88 l1.toNatClampNeg 0) J k := by
  refine (tt_f rfl).trans ?_
  refine (tt_al rfl).trans ?_
  refine (tt_f rfl).trans ?_
  refine (tt_gr rfl rfl).trans ?_
  refine (tt_f rfl).trans ?_
  refine (tt_il rfl).trans ?_
  refine (tt_f rfl).trans ?_
  refine tt_c.trans ?_
  refine (tt_f rfl).trans ?_
  exact tt_pa rfl rfl hi1
theorem B114_77 {l1 : Int32} {l2 : Int32}  : zd S 114 77 [some (.ref 76), some (.int l1), some (.int l2), none] [] I J k = if 0 ≤ (I 76 23) then zd S 114 93 [some (.ref 76), some (.int l1), some (.int l2), none] [] I J k else zd S 114 84 [some (.ref 76), some (.int l1), some (.int l2), none] [] I J k := by
  refine (tt_f rfl).trans ?_
  refine (tt_al rfl).trans ?_
  refine (tt_f rfl).trans ?_
  refine (tt_gi rfl rfl).trans ?_
  refine (tt_f rfl).trans ?_
  exact tt_f1 (p := fun x => 0 ≤ x) inferInstance rfl
theorem B114_84 {l1 : Int32} {l2 : Int32} {I1 : zI} {J2 : zJ} (hb : Nat.ble k.1 (mBu 114).1 = true ∧ Nat.ble k.2 (mBu 114).2 = true) (hq : zq S 111 [.ref 76, .int (16 + l1), .int 4] I J none I1 J2) : zd S 114 84 [some (.ref 76), some (.int l1), some (.int l2), none] [] I J k = zd S 114 93 [some (.ref 76), some (.int l1), some (.int l2), none] [] I1 J2 k := by
  refine (tt_f rfl).trans ?_
  refine (tt_al rfl).trans ?_
  refine (tt_f rfl).trans ?_
  refine tt_c.trans ?_
  refine (tt_f rfl).trans ?_
  refine (tt_il rfl).trans ?_
  refine (tt_f rfl).trans ?_
  refine tt_bi.trans ?_
  refine (tt_f rfl).trans ?_
  refine tt_c.trans ?_
  exact tt_cv (As := [.int (16 + l1), .int 4]) rfl hb.1 hb.2 rfl rfl rfl rfl rfl hq
theorem B114_93 {l1 : Int32} {l2 : Int32}  : zd S 114 93 [some (.ref 76), some (.int l1), some (.int l2), none] [] I J k = zd S 114 95 [some (.ref 76), some (.int l1), none, some (.int 1)] [] I J k := by
  refine (tt_fk rfl rfl).trans ?_
  refine tt_c.trans ?_
  refine (tt_f rfl).trans ?_
  refine (tt_is rfl rfl).trans ?_
  rfl
theorem B114_95 {l1 : Int32} {l3 : Int32}  : zd S 114 95 [some (.ref 76), some (.int l1), none, some (.int l3)] [] I J k = if 0 ≤ (I 76 23) then zd S 114 140 [some (.ref 76), some (.int l1), none, some (.int l3)] [] I J k else zd S 114 102 [some (.ref 76), some (.int l1), none, some (.int l3)] [] I J k := by
  refine (tt_fk rfl rfl).trans ?_
  refine (tt_al rfl).trans ?_
  refine (tt_f rfl).trans ?_
  refine (tt_gi rfl rfl).trans ?_
  refine (tt_f rfl).trans ?_
  exact tt_f1 (p := fun x => 0 ≤ x) inferInstance rfl
theorem B114_102 {l1 : Int32} {l3 : Int32}  : zd S 114 102 [some (.ref 76), some (.int l1), none, some (.int l3)] [] I J k = if l3 = 0 then zd S 114 140 [some (.ref 76), some (.int l1), none, some (.int l3)] [] I J k else zd S 114 106 [some (.ref 76), some (.int l1), none, some (.int l3)] [] I J k := by
  refine (tt_f rfl).trans ?_
  refine (tt_il rfl).trans ?_
  refine (tt_f rfl).trans ?_
  exact tt_f1 (p := fun x => x = 0) inferInstance rfl
theorem B114_106 {l1 : Int32} {l3 : Int32} {I1 : zI} {J2 : zJ} (hb : Nat.ble k.1 (mBu 114).1 = true ∧ Nat.ble k.2 (mBu 114).2 = true) (hq : zq S 113 [.ref 76, .int l1] I J none I1 J2) : zd S 114 106 [some (.ref 76), some (.int l1), none, some (.int l3)] [] I J k = zd S 114 111 [some (.ref 76), some (.int l1), none, some (.int l3)] [] I1 J2 k := by
  refine (tt_f rfl).trans ?_
  refine (tt_al rfl).trans ?_
  refine (tt_f rfl).trans ?_
  refine (tt_il rfl).trans ?_
  exact tt_cv (As := [.int l1]) rfl hb.1 hb.2 rfl rfl rfl rfl rfl hq
theorem B114_111 {l1 : Int32} {l3 : Int32}  : zd S 114 111 [some (.ref 76), some (.int l1), none, some (.int l3)] [] I J k = if (I 76 12) ≤ (I 76 22) then zd S 114 135 [some (.ref 76), some (.int l1), none, some (.int l3)] [] I J k else zd S 114 122 [some (.ref 76), some (.int l1), none, some (.int l3)] [] I J k := by
  refine (tt_f rfl).trans ?_
  refine (tt_al rfl).trans ?_
  refine (tt_f rfl).trans ?_
  refine (tt_gi rfl rfl).trans ?_
  refine (tt_f rfl).trans ?_
  refine (tt_al rfl).trans ?_
  refine (tt_f rfl).trans ?_
  refine (tt_gi rfl rfl).trans ?_
  refine (tt_f rfl).trans ?_
  exact tt_f2 (p := fun x y => y ≤ x) inferInstance rfl
theorem B114_122 {l1 : Int32} {l3 : Int32} {v1 : Int32} {I2 : zI} {J3 : zJ} (hb : Nat.ble k.1 (mBu 114).1 = true ∧ Nat.ble k.2 (mBu 114).2 = true) (hq : zq S 107 [.ref 76] I J (some (.int v1)) I2 J3) : zd S 114 122 [some (.ref 76), some (.int l1), none, some (.int l3)] [] I J k = zd S 114 126 [some (.ref 76), some (.int l1), none, some (.int l3)] [.int v1] I2 J3 k := by
  refine (tt_f rfl).trans ?_
  refine (tt_al rfl).trans ?_
  exact tt_cv (As := []) rfl hb.1 hb.2 rfl rfl rfl rfl rfl hq
theorem B114_126 {l1 : Int32} {l3 : Int32} {t0 : Int32}  : zd S 114 126 [some (.ref 76), some (.int l1), none, some (.int l3)] [.int t0] I J k = if t0 = 35 then zd S 114 135 [some (.ref 76), some (.int l1), none, some (.int l3)] [] I J k else zd S 114 131 [some (.ref 76), some (.int l1), none, some (.int l3)] [] I J k := by
  refine (tt_f rfl).trans ?_
  refine tt_c.trans ?_
  refine (tt_f rfl).trans ?_
  exact tt_f2 (p := fun x y => x = y) inferInstance rfl
theorem B114_131 {l1 : Int32} {l3 : Int32}  : zd S 114 131 [some (.ref 76), some (.int l1), none, some (.int l3)] [] I J k = zd S 114 95 [some (.ref 76), some (.int l1), none, some (.int 1)] [] I J k := by
  refine (tt_f rfl).trans ?_
  refine tt_c.trans ?_
  refine (tt_f rfl).trans ?_
  refine tt_go.trans ?_
  refine (tt_fk rfl rfl).trans ?_
  refine (tt_is rfl rfl).trans ?_
  refine (tt_f rfl).trans ?_
  refine tt_go.trans ?_
  rfl
theorem B114_135 {l1 : Int32} {l3 : Int32}  : zd S 114 135 [some (.ref 76), some (.int l1), none, some (.int l3)] [] I J k = zd S 114 95 [some (.ref 76), some (.int l1), none, some (.int 0)] [] I J k := by
  refine (tt_fk rfl rfl).trans ?_
  refine tt_c.trans ?_
  refine (tt_fk rfl rfl).trans ?_
  refine (tt_is rfl rfl).trans ?_
  refine (tt_f rfl).trans ?_
  refine tt_go.trans ?_
  rfl
theorem B114_140 {l1 : Int32} {l3 : Int32}  : zd S 114 140 [some (.ref 76), some (.int l1), none, some (.int l3)] [] I J k = zd S 114 150 [some (.ref 76), none, none, none] [] (u2 I 76 13 ((I 76 13) + 1)) J k := by
  refine (tt_fk rfl rfl).trans ?_
  refine (tt_al rfl).trans ?_
  refine (tt_f rfl).trans ?_
  refine (tt_dup rfl).trans ?_
  refine (tt_f rfl).trans ?_
  refine (tt_gi rfl rfl).trans ?_
  refine (tt_f rfl).trans ?_
  refine tt_c.trans ?_
  refine (tt_f rfl).trans ?_
  refine tt_bi.trans ?_
  refine (tt_f rfl).trans ?_
  exact tt_pi rfl rfl rfl
theorem B114_150   : zd S 114 150 [some (.ref 76), none, none, none] [] I J k = some (none, mk I J, k) := by
  exact tt_rv rfl
/-! 115: EditionGridModel.free -/
theorem B115_0   : zd S 115 0 [some (.ref 76), none] [] I J k = zd S 115 2 [some (.ref 76), some (.int 0)] [] I J k := by
  refine (tt_f rfl).trans ?_
  refine tt_c.trans ?_
  refine (tt_f rfl).trans ?_
  refine (tt_is rfl rfl).trans ?_
  rfl
theorem B115_2 {l1 : Int32}  : zd S 115 2 [some (.ref 76), some (.int l1)] [] I J k = if 192 ≤ l1 then zd S 115 22 [some (.ref 76), some (.int l1)] [] I J k else zd S 115 9 [some (.ref 76), some (.int l1)] [] I J k := by
  refine (tt_fk rfl rfl).trans ?_
  refine (tt_il rfl).trans ?_
  refine (tt_f rfl).trans ?_
  refine tt_c.trans ?_
  refine (tt_f rfl).trans ?_
  exact tt_f2 (p := fun x y => y ≤ x) inferInstance rfl
theorem B115_9 {l1 : Int32} (hi1 : zin l1 192 = true) : zd S 115 9 [some (.ref 76), some (.int l1)] [] I J k = zd S 115 16 [some (.ref 76), some (.int l1)] [] (u2 I 105 l1.toNatClampNeg 0) J k := by
  refine (tt_f rfl).trans ?_
  refine (tt_al rfl).trans ?_
  refine (tt_f rfl).trans ?_
  refine (tt_gr rfl rfl).trans ?_
  refine (tt_f rfl).trans ?_
  refine (tt_il rfl).trans ?_
  refine (tt_f rfl).trans ?_
  refine tt_c.trans ?_
  refine (tt_f rfl).trans ?_
  exact tt_pa rfl rfl hi1
theorem B115_16 {l1 : Int32}  : zd S 115 16 [some (.ref 76), some (.int l1)] [] I J k = zd S 115 2 [some (.ref 76), some (.int (l1 + 1))] [] I J k := by
  refine (tt_f rfl).trans ?_
  refine (tt_in rfl rfl).trans ?_
  refine (tt_f rfl).trans ?_
  refine tt_go.trans ?_
  rfl
theorem B115_22 {l1 : Int32}  : zd S 115 22 [some (.ref 76), some (.int l1)] [] I J k = zd S 115 24 [some (.ref 76), some (.int 0)] [] I J k := by
  refine (tt_f rfl).trans ?_
  refine tt_c.trans ?_
  refine (tt_f rfl).trans ?_
  refine (tt_is rfl rfl).trans ?_
  rfl
theorem B115_24 {l1 : Int32}  : zd S 115 24 [some (.ref 76), some (.int l1)] [] I J k = if 8 ≤ l1 then zd S 115 43 [some (.ref 76), some (.int l1)] [] I J k else zd S 115 30 [some (.ref 76), some (.int l1)] [] I J k := by
  refine (tt_fk rfl rfl).trans ?_
  refine (tt_il rfl).trans ?_
  refine (tt_f rfl).trans ?_
  refine tt_c.trans ?_
  refine (tt_f rfl).trans ?_
  exact tt_f2 (p := fun x y => y ≤ x) inferInstance rfl
theorem B115_30 {l1 : Int32} (hi1 : zin l1 8 = true) : zd S 115 30 [some (.ref 76), some (.int l1)] [] I J k = zd S 115 37 [some (.ref 76), some (.int l1)] [] (u2 I 103 l1.toNatClampNeg (vp_nar .boolean 0)) J k := by
  refine (tt_f rfl).trans ?_
  refine (tt_al rfl).trans ?_
  refine (tt_f rfl).trans ?_
  refine (tt_gr rfl rfl).trans ?_
  refine (tt_f rfl).trans ?_
  refine (tt_il rfl).trans ?_
  refine (tt_f rfl).trans ?_
  refine tt_c.trans ?_
  refine (tt_f rfl).trans ?_
  exact tt_pa rfl rfl hi1
theorem B115_37 {l1 : Int32}  : zd S 115 37 [some (.ref 76), some (.int l1)] [] I J k = zd S 115 24 [some (.ref 76), some (.int (l1 + 1))] [] I J k := by
  refine (tt_f rfl).trans ?_
  refine (tt_in rfl rfl).trans ?_
  refine (tt_f rfl).trans ?_
  refine tt_go.trans ?_
  rfl
theorem B115_43 {l1 : Int32}  : zd S 115 43 [some (.ref 76), some (.int l1)] [] I J k = some (none, mk I J, k) := by
  exact tt_rv rfl
/-! 116: EditionGridModel.read -/
theorem B116_0   : zd S 116 0 [some (.ref 76), none] [] I J k = zd S 116 5 [some (.ref 76), none] [] (u2 I 76 13 0) J k := by
  refine (tt_f rfl).trans ?_
  refine (tt_al rfl).trans ?_
  refine (tt_f rfl).trans ?_
  refine tt_c.trans ?_
  refine (tt_f rfl).trans ?_
  exact tt_pi rfl rfl rfl
theorem B116_5   : zd S 116 5 [some (.ref 76), none] [] I J k = zd S 116 10 [some (.ref 76), none] [] (u2 I 76 24 0) J k := by
  refine (tt_f rfl).trans ?_
  refine (tt_al rfl).trans ?_
  refine (tt_f rfl).trans ?_
  refine tt_c.trans ?_
  refine (tt_f rfl).trans ?_
  exact tt_pi rfl rfl (by decide)
theorem B116_10   : zd S 116 10 [some (.ref 76), none] [] I J k = zd S 116 15 [some (.ref 76), none] [] (u2 I 76 22 0) J k := by
  refine (tt_f rfl).trans ?_
  refine (tt_al rfl).trans ?_
  refine (tt_f rfl).trans ?_
  refine tt_c.trans ?_
  refine (tt_f rfl).trans ?_
  exact tt_pi rfl rfl rfl
theorem B116_15   : zd S 116 15 [some (.ref 76), none] [] I J k = zd S 116 20 [some (.ref 76), none] [] (u2 I 76 23 (-1)) J k := by
  refine (tt_f rfl).trans ?_
  refine (tt_al rfl).trans ?_
  refine (tt_f rfl).trans ?_
  refine tt_c.trans ?_
  refine (tt_f rfl).trans ?_
  exact tt_pi rfl rfl rfl
theorem B116_20 {I1 : zI} {J2 : zJ} (hb : Nat.ble k.1 (mBu 116).1 = true ∧ Nat.ble k.2 (mBu 116).2 = true) (hq : zq S 115 [.ref 76] I J none I1 J2) : zd S 116 20 [some (.ref 76), none] [] I J k = zd S 116 24 [some (.ref 76), none] [] I1 J2 k := by
  refine (tt_f rfl).trans ?_
  refine (tt_al rfl).trans ?_
  exact tt_cv (As := []) rfl hb.1 hb.2 rfl rfl rfl rfl rfl hq
theorem B116_24   : zd S 116 24 [some (.ref 76), none] [] I J k = zd S 116 26 [some (.ref 76), some (.int 1)] [] I J k := by
  refine (tt_f rfl).trans ?_
  refine tt_c.trans ?_
  refine (tt_f rfl).trans ?_
  refine (tt_is rfl rfl).trans ?_
  rfl
theorem B116_26 {l1 : Int32}  : zd S 116 26 [some (.ref 76), some (.int l1)] [] I J k = if 0 ≤ (I 76 23) then zd S 116 61 [some (.ref 76), some (.int l1)] [] I J k else zd S 116 33 [some (.ref 76), some (.int l1)] [] I J k := by
  refine (tt_fk rfl rfl).trans ?_
  refine (tt_al rfl).trans ?_
  refine (tt_f rfl).trans ?_
  refine (tt_gi rfl rfl).trans ?_
  refine (tt_f rfl).trans ?_
  exact tt_f1 (p := fun x => 0 ≤ x) inferInstance rfl
theorem B116_33 {l1 : Int32}  : zd S 116 33 [some (.ref 76), some (.int l1)] [] I J k = if l1 = 0 then zd S 116 61 [some (.ref 76), some (.int l1)] [] I J k else zd S 116 37 [some (.ref 76), some (.int l1)] [] I J k := by
  refine (tt_f rfl).trans ?_
  refine (tt_il rfl).trans ?_
  refine (tt_f rfl).trans ?_
  exact tt_f1 (p := fun x => x = 0) inferInstance rfl
theorem B116_37 {l1 : Int32} {I1 : zI} {J2 : zJ} (hb : Nat.ble k.1 (mBu 116).1 = true ∧ Nat.ble k.2 (mBu 116).2 = true) (hq : zq S 114 [.ref 76] I J none I1 J2) : zd S 116 37 [some (.ref 76), some (.int l1)] [] I J k = zd S 116 41 [some (.ref 76), some (.int l1)] [] I1 J2 k := by
  refine (tt_f rfl).trans ?_
  refine (tt_al rfl).trans ?_
  exact tt_cv (As := []) rfl hb.1 hb.2 rfl rfl rfl rfl rfl hq
theorem B116_41 {l1 : Int32}  : zd S 116 41 [some (.ref 76), some (.int l1)] [] I J k = if (I 76 12) ≤ (I 76 22) then zd S 116 56 [some (.ref 76), some (.int l1)] [] I J k else zd S 116 52 [some (.ref 76), some (.int l1)] [] I J k := by
  refine (tt_f rfl).trans ?_
  refine (tt_al rfl).trans ?_
  refine (tt_f rfl).trans ?_
  refine (tt_gi rfl rfl).trans ?_
  refine (tt_f rfl).trans ?_
  refine (tt_al rfl).trans ?_
  refine (tt_f rfl).trans ?_
  refine (tt_gi rfl rfl).trans ?_
  refine (tt_f rfl).trans ?_
  exact tt_f2 (p := fun x y => y ≤ x) inferInstance rfl
theorem B116_52 {l1 : Int32}  : zd S 116 52 [some (.ref 76), some (.int l1)] [] I J k = zd S 116 26 [some (.ref 76), some (.int 1)] [] I J k := by
  refine (tt_f rfl).trans ?_
  refine tt_c.trans ?_
  refine (tt_f rfl).trans ?_
  refine tt_go.trans ?_
  refine (tt_fk rfl rfl).trans ?_
  refine (tt_is rfl rfl).trans ?_
  refine (tt_f rfl).trans ?_
  refine tt_go.trans ?_
  rfl
theorem B116_56 {l1 : Int32}  : zd S 116 56 [some (.ref 76), some (.int l1)] [] I J k = zd S 116 26 [some (.ref 76), some (.int 0)] [] I J k := by
  refine (tt_f rfl).trans ?_
  refine tt_c.trans ?_
  refine (tt_fk rfl rfl).trans ?_
  refine (tt_is rfl rfl).trans ?_
  refine (tt_f rfl).trans ?_
  refine tt_go.trans ?_
  rfl
theorem B116_61 {l1 : Int32}  : zd S 116 61 [some (.ref 76), some (.int l1)] [] I J k = if 0 ≤ (I 76 23) then zd S 116 76 [some (.ref 76), none] [.ref 76] I J k else zd S 116 69 [some (.ref 76), none] [.ref 76] I J k := by
  refine (tt_fk rfl rfl).trans ?_
  refine (tt_al rfl).trans ?_
  refine (tt_f rfl).trans ?_
  refine (tt_al rfl).trans ?_
  refine (tt_f rfl).trans ?_
  refine (tt_gi rfl rfl).trans ?_
  refine (tt_f rfl).trans ?_
  exact tt_f1 (p := fun x => 0 ≤ x) inferInstance rfl
theorem B116_69   : zd S 116 69 [some (.ref 76), none] [.ref 76] I J k = zd S 116 80 [some (.ref 76), none] [] (u2 I 76 13 (I 76 13)) J k := by
  refine (tt_f rfl).trans ?_
  refine (tt_al rfl).trans ?_
  refine (tt_f rfl).trans ?_
  refine (tt_gi rfl rfl).trans ?_
  refine (tt_f rfl).trans ?_
  refine tt_go.trans ?_
  refine (tt_fk rfl rfl).trans ?_
  exact tt_pi rfl rfl rfl
theorem B116_76   : zd S 116 76 [some (.ref 76), none] [.ref 76] I J k = zd S 116 80 [some (.ref 76), none] [] (u2 I 76 13 0) J k := by
  refine (tt_f rfl).trans ?_
  refine tt_c.trans ?_
  refine (tt_fk rfl rfl).trans ?_
  exact tt_pi rfl rfl rfl
theorem B116_80   : zd S 116 80 [some (.ref 76), none] [] I J k = if 0 ≤ (I 76 23) then zd S 116 94 [some (.ref 76), none] [] I J k else zd S 116 87 [some (.ref 76), none] [] I J k := by
  refine (tt_f rfl).trans ?_
  refine (tt_al rfl).trans ?_
  refine (tt_f rfl).trans ?_
  refine (tt_gi rfl rfl).trans ?_
  refine (tt_f rfl).trans ?_
  exact tt_f1 (p := fun x => 0 ≤ x) inferInstance rfl
theorem B116_87   : zd S 116 87 [some (.ref 76), none] [] I J k = some ((some (.int (I 76 13))), mk I J, k) := by
  refine (tt_f rfl).trans ?_
  refine (tt_al rfl).trans ?_
  refine (tt_f rfl).trans ?_
  refine (tt_gi rfl rfl).trans ?_
  refine (tt_f rfl).trans ?_
  refine tt_go.trans ?_
  exact tt_r1 rfl rfl
theorem B116_94   : zd S 116 94 [some (.ref 76), none] [] I J k = some ((some (.int (-1))), mk I J, k) := by
  refine (tt_f rfl).trans ?_
  refine tt_c.trans ?_
  exact tt_r1 rfl rfl
/-! 117: EditionGridModel.fault -/
theorem B117_0   : zd S 117 0 [some (.ref 76)] [] I J k = some ((some (.int (I 76 23))), mk I J, k) := by
  refine (tt_f rfl).trans ?_
  refine (tt_al rfl).trans ?_
  refine (tt_f rfl).trans ?_
  refine (tt_gi rfl rfl).trans ?_
  exact tt_r1 rfl rfl
/-! 118: EditionGridModel.markEnds -/
theorem B118_0 {l1 : Int32}  : zd S 118 0 [some (.ref 76), some (.int l1), none, none, none, none] [] I J k = zd S 118 2 [some (.ref 76), some (.int l1), some (.int 0), none, none, none] [] I J k := by
  refine (tt_f rfl).trans ?_
  refine tt_c.trans ?_
  refine (tt_f rfl).trans ?_
  refine (tt_is rfl rfl).trans ?_
  rfl
theorem B118_2 {l1 : Int32} {l2 : Int32}  : zd S 118 2 [some (.ref 76), some (.int l1), some (.int l2), none, none, none] [] I J k = if 192 < l2 then zd S 118 29 [some (.ref 76), some (.int l1), some (.int l2), none, none, none] [] I J k else zd S 118 9 [some (.ref 76), some (.int l1), some (.int l2), none, none, none] [] I J k := by
  refine (tt_fk rfl rfl).trans ?_
  refine (tt_il rfl).trans ?_
  refine (tt_f rfl).trans ?_
  refine tt_c.trans ?_
  refine (tt_f rfl).trans ?_
  exact tt_f2 (p := fun x y => y < x) inferInstance rfl
theorem B118_9 {l1 : Int32} {l2 : Int32} (hi1 : zin l2 193 = true) : zd S 118 9 [some (.ref 76), some (.int l1), some (.int l2), none, none, none] [] I J k = zd S 118 16 [some (.ref 76), some (.int l1), some (.int l2), none, none, none] [] (u2 I 99 l2.toNatClampNeg (vp_nar .boolean 0)) J k := by
  refine (tt_f rfl).trans ?_
  refine (tt_al rfl).trans ?_
  refine (tt_f rfl).trans ?_
  refine (tt_gr rfl rfl).trans ?_
  refine (tt_f rfl).trans ?_
  refine (tt_il rfl).trans ?_
  refine (tt_f rfl).trans ?_
  refine tt_c.trans ?_
  refine (tt_f rfl).trans ?_
  exact tt_pa rfl rfl hi1
theorem B118_16 {l1 : Int32} {l2 : Int32} (hi1 : zin l2 193 = true) : zd S 118 16 [some (.ref 76), some (.int l1), some (.int l2), none, none, none] [] I J k = zd S 118 23 [some (.ref 76), some (.int l1), some (.int l2), none, none, none] [] (u2 I 100 l2.toNatClampNeg (vp_nar .boolean 0)) J k := by
  refine (tt_f rfl).trans ?_
  refine (tt_al rfl).trans ?_
  refine (tt_f rfl).trans ?_
  refine (tt_gr rfl rfl).trans ?_
  refine (tt_f rfl).trans ?_
  refine (tt_il rfl).trans ?_
  refine (tt_f rfl).trans ?_
  refine tt_c.trans ?_
  refine (tt_f rfl).trans ?_
  exact tt_pa rfl rfl hi1
theorem B118_23 {l1 : Int32} {l2 : Int32}  : zd S 118 23 [some (.ref 76), some (.int l1), some (.int l2), none, none, none] [] I J k = zd S 118 2 [some (.ref 76), some (.int l1), some (.int (l2 + 1)), none, none, none] [] I J k := by
  refine (tt_f rfl).trans ?_
  refine (tt_in rfl rfl).trans ?_
  refine (tt_f rfl).trans ?_
  refine tt_go.trans ?_
  rfl
theorem B118_29 {l1 : Int32} {l2 : Int32}  : zd S 118 29 [some (.ref 76), some (.int l1), some (.int l2), none, none, none] [] I J k = zd S 118 33 [some (.ref 76), some (.int l1), some (.int 0), some (.int 0), none, none] [] I J k := by
  refine (tt_f rfl).trans ?_
  refine tt_c.trans ?_
  refine (tt_f rfl).trans ?_
  refine (tt_is rfl rfl).trans ?_
  refine (tt_f rfl).trans ?_
  refine tt_c.trans ?_
  refine (tt_f rfl).trans ?_
  refine (tt_is rfl rfl).trans ?_
  rfl
theorem B118_33 {l1 : Int32} {l2 : Int32} {l3 : Int32} {o4 : Option Value} {o5 : Option Value} (hi1 : zin l1 20 = true) : zd S 118 33 [some (.ref 76), some (.int l1), some (.int l2), some (.int l3), o4, o5] [] I J k = if (I 91 l1.toNatClampNeg) ≤ l3 then zd S 118 162 [some (.ref 76), some (.int l1), some (.int l2), some (.int l3), none, none] [] I J k else zd S 118 43 [some (.ref 76), some (.int l1), some (.int l2), some (.int l3), none, none] [] I J k := by
  refine (tt_fk rfl rfl).trans ?_
  refine (tt_il rfl).trans ?_
  refine (tt_f rfl).trans ?_
  refine (tt_al rfl).trans ?_
  refine (tt_f rfl).trans ?_
  refine (tt_gr rfl rfl).trans ?_
  refine (tt_f rfl).trans ?_
  refine (tt_il rfl).trans ?_
  refine (tt_f rfl).trans ?_
  refine (tt_ga rfl rfl hi1).trans ?_
  refine (tt_f rfl).trans ?_
  exact tt_f2 (p := fun x y => y ≤ x) inferInstance rfl
theorem B118_43 {l1 : Int32} {l2 : Int32} {l3 : Int32} (hi1 : zin ((16 * l1) + l3) 320 = true) : zd S 118 43 [some (.ref 76), some (.int l1), some (.int l2), some (.int l3), none, none] [] I J k = zd S 118 61 [some (.ref 76), some (.int l1), some (.int l2), some (.int l3), some (.int ((I 90 ((16 * l1) + l3).toNatClampNeg) - l2)), some (.int 0)] [] I J k := by
  refine (tt_f rfl).trans ?_
  refine (tt_al rfl).trans ?_
  refine (tt_f rfl).trans ?_
  refine (tt_gr rfl rfl).trans ?_
  refine (tt_f rfl).trans ?_
  refine tt_c.trans ?_
  refine (tt_f rfl).trans ?_
  refine (tt_il rfl).trans ?_
  refine (tt_f rfl).trans ?_
  refine tt_bi.trans ?_
  refine (tt_f rfl).trans ?_
  refine (tt_il rfl).trans ?_
  refine (tt_f rfl).trans ?_
  refine tt_bi.trans ?_
  refine (tt_f rfl).trans ?_
  refine (tt_ga rfl rfl hi1).trans ?_
  refine (tt_f rfl).trans ?_
  refine (tt_il rfl).trans ?_
  refine (tt_f rfl).trans ?_
  refine tt_bi.trans ?_
  refine (tt_f rfl).trans ?_
  refine (tt_is rfl rfl).trans ?_
  refine (tt_f rfl).trans ?_
  refine tt_c.trans ?_
  refine (tt_f rfl).trans ?_
  refine (tt_is rfl rfl).trans ?_
  rfl
theorem B118_61 {l1 : Int32} {l2 : Int32} {l3 : Int32} {l4 : Int32} {l5 : Int32}  : zd S 118 61 [some (.ref 76), some (.int l1), some (.int l2), some (.int l3), some (.int l4), some (.int l5)] [] I J k = if l4 ≤ l5 then zd S 118 98 [some (.ref 76), some (.int l1), some (.int l2), some (.int l3), some (.int l4), some (.int l5)] [] I J k else zd S 118 68 [some (.ref 76), some (.int l1), some (.int l2), some (.int l3), some (.int l4), some (.int l5)] [] I J k := by
  refine (tt_fk rfl rfl).trans ?_
  refine (tt_il rfl).trans ?_
  refine (tt_f rfl).trans ?_
  refine (tt_il rfl).trans ?_
  refine (tt_f rfl).trans ?_
  exact tt_f2 (p := fun x y => y ≤ x) inferInstance rfl
theorem B118_68 {l1 : Int32} {l2 : Int32} {l3 : Int32} {l4 : Int32} {l5 : Int32} (hi1 : zin (((192 * l1) + l2) + l5) 3840 = true) (hi2 : zin (1 + l5) 14 = true) : zd S 118 68 [some (.ref 76), some (.int l1), some (.int l2), some (.int l3), some (.int l4), some (.int l5)] [] I J k = zd S 118 92 [some (.ref 76), some (.int l1), some (.int l2), some (.int l3), some (.int l4), some (.int l5)] [] (u2 I 82 (1 + l5).toNatClampNeg (I 89 (((192 * l1) + l2) + l5).toNatClampNeg)) J k := by
  refine (tt_f rfl).trans ?_
  refine (tt_al rfl).trans ?_
  refine (tt_f rfl).trans ?_
  refine (tt_gr rfl rfl).trans ?_
  refine (tt_f rfl).trans ?_
  refine tt_c.trans ?_
  refine (tt_f rfl).trans ?_
  refine (tt_il rfl).trans ?_
  refine (tt_f rfl).trans ?_
  refine tt_bi.trans ?_
  refine (tt_f rfl).trans ?_
  refine (tt_al rfl).trans ?_
  refine (tt_f rfl).trans ?_
  refine (tt_gr rfl rfl).trans ?_
  refine (tt_f rfl).trans ?_
  refine tt_c.trans ?_
  refine (tt_f rfl).trans ?_
  refine (tt_il rfl).trans ?_
  refine (tt_f rfl).trans ?_
  refine tt_bi.trans ?_
  refine (tt_f rfl).trans ?_
  refine (tt_il rfl).trans ?_
  refine (tt_f rfl).trans ?_
  refine tt_bi.trans ?_
  refine (tt_f rfl).trans ?_
  refine (tt_il rfl).trans ?_
  refine (tt_f rfl).trans ?_
  refine tt_bi.trans ?_
  refine (tt_f rfl).trans ?_
  refine (tt_ga rfl rfl hi1).trans ?_
  refine (tt_f rfl).trans ?_
  exact tt_pa rfl rfl hi2
theorem B118_92 {l1 : Int32} {l2 : Int32} {l3 : Int32} {l4 : Int32} {l5 : Int32}  : zd S 118 92 [some (.ref 76), some (.int l1), some (.int l2), some (.int l3), some (.int l4), some (.int l5)] [] I J k = zd S 118 61 [some (.ref 76), some (.int l1), some (.int l2), some (.int l3), some (.int l4), some (.int (l5 + 1))] [] I J k := by
  refine (tt_f rfl).trans ?_
  refine (tt_in rfl rfl).trans ?_
  refine (tt_f rfl).trans ?_
  refine tt_go.trans ?_
  rfl
theorem B118_98 {l1 : Int32} {l2 : Int32} {l3 : Int32} {l4 : Int32} {l5 : Int32} {I1 : zI} {J2 : zJ} (hb : Nat.ble k.1 (mBu 118).1 = true ∧ Nat.ble k.2 (mBu 118).2 = true) (hq : zq S 102 [.ref 76, .int l4] I J none I1 J2) : zd S 118 98 [some (.ref 76), some (.int l1), some (.int l2), some (.int l3), some (.int l4), some (.int l5)] [] I J k = zd S 118 104 [some (.ref 76), some (.int l1), some (.int l2), some (.int l3), some (.int l4), some (.int l5)] [] I1 J2 k := by
  refine (tt_f rfl).trans ?_
  refine (tt_al rfl).trans ?_
  refine (tt_f rfl).trans ?_
  refine (tt_il rfl).trans ?_
  exact tt_cv (As := [.int l4]) rfl hb.1 hb.2 rfl rfl rfl rfl rfl hq
theorem B118_104 {l1 : Int32} {l2 : Int32} {l3 : Int32} {l4 : Int32} {l5 : Int32}  : zd S 118 104 [some (.ref 76), some (.int l1), some (.int l2), some (.int l3), some (.int l4), some (.int l5)] [] I J k = zd S 118 107 [some (.ref 76), some (.int l1), some (.int l2), some (.int l3), some (.int l4), some (.int 1)] [] I J k := by
  refine (tt_f rfl).trans ?_
  refine tt_c.trans ?_
  refine (tt_f rfl).trans ?_
  refine (tt_is rfl rfl).trans ?_
  rfl
theorem B118_107 {l1 : Int32} {l2 : Int32} {l3 : Int32} {l4 : Int32} {l5 : Int32}  : zd S 118 107 [some (.ref 76), some (.int l1), some (.int l2), some (.int l3), some (.int l4), some (.int l5)] [] I J k = if l4 ≤ l5 then zd S 118 137 [some (.ref 76), some (.int l1), some (.int l2), some (.int l3), some (.int l4), some (.int l5)] [] I J k else zd S 118 114 [some (.ref 76), some (.int l1), some (.int l2), some (.int l3), some (.int l4), some (.int l5)] [] I J k := by
  refine (tt_fk rfl rfl).trans ?_
  refine (tt_il rfl).trans ?_
  refine (tt_f rfl).trans ?_
  refine (tt_il rfl).trans ?_
  refine (tt_f rfl).trans ?_
  exact tt_f2 (p := fun x y => y ≤ x) inferInstance rfl
theorem B118_114 {l1 : Int32} {l2 : Int32} {l3 : Int32} {l4 : Int32} {l5 : Int32} {v1 : Int32} {I2 : zI} {J3 : zJ} (hb : Nat.ble k.1 (mBu 118).1 = true ∧ Nat.ble k.2 (mBu 118).2 = true) (hq : zq S 103 [.ref 76, .int l5, .int l4] I J (some (.int v1)) I2 J3) : zd S 118 114 [some (.ref 76), some (.int l1), some (.int l2), some (.int l3), some (.int l4), some (.int l5)] [] I J k = zd S 118 130 [some (.ref 76), some (.int l1), some (.int l2), some (.int l3), some (.int l4), some (.int l5)] [.int v1, .int (l2 + l5), .ref 99] I2 J3 k := by
  refine (tt_f rfl).trans ?_
  refine (tt_al rfl).trans ?_
  refine (tt_f rfl).trans ?_
  refine (tt_gr rfl rfl).trans ?_
  refine (tt_f rfl).trans ?_
  refine (tt_il rfl).trans ?_
  refine (tt_f rfl).trans ?_
  refine (tt_il rfl).trans ?_
  refine (tt_f rfl).trans ?_
  refine tt_bi.trans ?_
  refine (tt_f rfl).trans ?_
  refine (tt_al rfl).trans ?_
  refine (tt_f rfl).trans ?_
  refine (tt_il rfl).trans ?_
  refine (tt_f rfl).trans ?_
  refine (tt_il rfl).trans ?_
  exact tt_cv (As := [.int l5, .int l4]) rfl hb.1 hb.2 rfl rfl rfl rfl rfl hq
theorem B118_130 {l1 : Int32} {l2 : Int32} {l3 : Int32} {l4 : Int32} {l5 : Int32} {t1 : Int32} {t2 : Int32} (hi1 : zin t1 193 = true) : zd S 118 130 [some (.ref 76), some (.int l1), some (.int l2), some (.int l3), some (.int l4), some (.int l5)] [.int t2, .int t1, .ref 99] I J k = zd S 118 131 [some (.ref 76), some (.int l1), some (.int l2), some (.int l3), some (.int l4), some (.int l5)] [] (u2 I 99 t1.toNatClampNeg (vp_nar .boolean t2)) J k := by
  refine (tt_f rfl).trans ?_
  exact tt_pa rfl rfl hi1
theorem B118_131 {l1 : Int32} {l2 : Int32} {l3 : Int32} {l4 : Int32} {l5 : Int32}  : zd S 118 131 [some (.ref 76), some (.int l1), some (.int l2), some (.int l3), some (.int l4), some (.int l5)] [] I J k = zd S 118 107 [some (.ref 76), some (.int l1), some (.int l2), some (.int l3), some (.int l4), some (.int (l5 + 1))] [] I J k := by
  refine (tt_f rfl).trans ?_
  refine (tt_in rfl rfl).trans ?_
  refine (tt_f rfl).trans ?_
  refine tt_go.trans ?_
  rfl
theorem B118_137 {l1 : Int32} {l2 : Int32} {l3 : Int32} {l4 : Int32} {l5 : Int32} (hi1 : zin (l2 + l4) 193 = true) : zd S 118 137 [some (.ref 76), some (.int l1), some (.int l2), some (.int l3), some (.int l4), some (.int l5)] [] I J k = zd S 118 149 [some (.ref 76), some (.int l1), some (.int (l2 + l4)), some (.int l3), some (.int l4), some (.int l5)] [] (u2 I 99 (l2 + l4).toNatClampNeg (vp_nar .boolean 1)) J k := by
  refine (tt_f rfl).trans ?_
  refine (tt_il rfl).trans ?_
  refine (tt_f rfl).trans ?_
  refine (tt_il rfl).trans ?_
  refine (tt_f rfl).trans ?_
  refine tt_bi.trans ?_
  refine (tt_f rfl).trans ?_
  refine (tt_is rfl rfl).trans ?_
  refine (tt_f rfl).trans ?_
  refine (tt_al rfl).trans ?_
  refine (tt_f rfl).trans ?_
  refine (tt_gr rfl rfl).trans ?_
  refine (tt_f rfl).trans ?_
  refine (tt_il rfl).trans ?_
  refine (tt_f rfl).trans ?_
  refine tt_c.trans ?_
  refine (tt_f rfl).trans ?_
  exact tt_pa rfl rfl hi1
theorem B118_149 {l1 : Int32} {l2 : Int32} {l3 : Int32} {l4 : Int32} {l5 : Int32} (hi1 : zin l2 193 = true) : zd S 118 149 [some (.ref 76), some (.int l1), some (.int l2), some (.int l3), some (.int l4), some (.int l5)] [] I J k = zd S 118 156 [some (.ref 76), some (.int l1), some (.int l2), some (.int l3), some (.int l4), some (.int l5)] [] (u2 I 100 l2.toNatClampNeg (vp_nar .boolean 1)) J k := by
  refine (tt_f rfl).trans ?_
  refine (tt_al rfl).trans ?_
  refine (tt_f rfl).trans ?_
  refine (tt_gr rfl rfl).trans ?_
  refine (tt_f rfl).trans ?_
  refine (tt_il rfl).trans ?_
  refine (tt_f rfl).trans ?_
  refine tt_c.trans ?_
  refine (tt_f rfl).trans ?_
  exact tt_pa rfl rfl hi1
theorem B118_156 {l1 : Int32} {l2 : Int32} {l3 : Int32} {l4 : Int32} {l5 : Int32}  : zd S 118 156 [some (.ref 76), some (.int l1), some (.int l2), some (.int l3), some (.int l4), some (.int l5)] [] I J k = zd S 118 33 [some (.ref 76), some (.int l1), some (.int l2), some (.int (l3 + 1)), some (.int l4), some (.int l5)] [] I J k := by
  refine (tt_f rfl).trans ?_
  refine (tt_in rfl rfl).trans ?_
  refine (tt_f rfl).trans ?_
  refine tt_go.trans ?_
  rfl
theorem B118_162 {l1 : Int32} {l2 : Int32} {l3 : Int32}  : zd S 118 162 [some (.ref 76), some (.int l1), some (.int l2), some (.int l3), none, none] [] I J k = some (none, mk I J, k) := by
  exact tt_rv rfl
end BL
