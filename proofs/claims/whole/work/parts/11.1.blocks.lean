section BL
variable {S : Nat × (Nat → Int32)} {I : zI} {J : zJ} {k : zK}
/-! 44: Painter.unitsOf -/
theorem B44_0 {l1 : Int32} {l2 : Int32}  : zd S 44 0 [some (.ref 73), some (.int l1), some (.int l2), none, none] [] I J k = zd S 44 5 [some (.ref 73), some (.int l1), some (.int l2), some (.int 0), some (.int l1)] [] I J k := by
  refine (tt_f rfl).trans ?_
  refine tt_c.trans ?_
  refine (tt_f rfl).trans ?_
  refine (tt_is rfl rfl).trans ?_
  refine (tt_f rfl).trans ?_
  refine (tt_il rfl).trans ?_
  refine (tt_f rfl).trans ?_
  refine (tt_is rfl rfl).trans ?_
  rfl
theorem B44_5 {o1 : Option Value} {l2 : Int32} {l3 : Int32} {l4 : Int32}  : zd S 44 5 [some (.ref 73), o1, some (.int l2), some (.int l3), some (.int l4)] [] I J k = if l2 ≤ l4 then zd S 44 31 [some (.ref 73), none, some (.int l2), some (.int l3), some (.int l4)] [] I J k else zd S 44 11 [some (.ref 73), none, some (.int l2), some (.int l3), some (.int l4)] [] I J k := by
  refine (tt_fk rfl rfl).trans ?_
  refine (tt_il rfl).trans ?_
  refine (tt_f rfl).trans ?_
  refine (tt_il rfl).trans ?_
  refine (tt_f rfl).trans ?_
  exact tt_f2 (p := fun x y => y ≤ x) inferInstance rfl
theorem B44_11 {l2 : Int32} {l3 : Int32} {l4 : Int32} {v2 : Int32} {I3 : zI} {J4 : zJ} (hb : Nat.ble k.1 (mBu 44).1 = true ∧ Nat.ble k.2 (mBu 44).2 = true) (hi1 : zin l4 480 = true) (hq : zq S 46 [.ref 73, .int (I 74 l4.toNatClampNeg)] I J (some (.int v2)) I3 J4) : zd S 44 11 [some (.ref 73), none, some (.int l2), some (.int l3), some (.int l4)] [] I J k = zd S 44 23 [some (.ref 73), none, some (.int l2), some (.int l3), some (.int l4)] [.int v2, .int l3] I3 J4 k := by
  refine (tt_f rfl).trans ?_
  refine (tt_il rfl).trans ?_
  refine (tt_f rfl).trans ?_
  refine (tt_al rfl).trans ?_
  refine (tt_f rfl).trans ?_
  refine (tt_al rfl).trans ?_
  refine (tt_f rfl).trans ?_
  refine (tt_gr rfl rfl).trans ?_
  refine (tt_f rfl).trans ?_
  refine (tt_il rfl).trans ?_
  refine (tt_f rfl).trans ?_
  refine (tt_ga rfl rfl hi1).trans ?_
  exact tt_cv (As := [.int (I 74 l4.toNatClampNeg)]) rfl hb.1 hb.2 rfl rfl rfl rfl rfl hq
theorem B44_23 {l2 : Int32} {l3 : Int32} {l4 : Int32} {t0 : Int32} {t1 : Int32}  : zd S 44 23 [some (.ref 73), none, some (.int l2), some (.int l3), some (.int l4)] [.int t1, .int t0] I J k = zd S 44 5 [some (.ref 73), none, some (.int l2), some (.int (t0 + t1)), some (.int (l4 + 1))] [] I J k := by
  refine (tt_f rfl).trans ?_
  refine tt_bi.trans ?_
  refine (tt_f rfl).trans ?_
  refine (tt_is rfl rfl).trans ?_
  refine (tt_f rfl).trans ?_
  refine (tt_in rfl rfl).trans ?_
  refine (tt_f rfl).trans ?_
  refine tt_go.trans ?_
  rfl
theorem B44_31 {l2 : Int32} {l3 : Int32} {l4 : Int32}  : zd S 44 31 [some (.ref 73), none, some (.int l2), some (.int l3), some (.int l4)] [] I J k = some ((some (.int l3)), mk I J, k) := by
  refine (tt_f rfl).trans ?_
  refine (tt_il rfl).trans ?_
  exact tt_r1 rfl rfl
/-! 45: Painter.gapsOf -/
theorem B45_0 {l1 : Int32} {l2 : Int32}  : zd S 45 0 [some (.ref 73), some (.int l1), some (.int l2), none, none] [] I J k = zd S 45 5 [some (.ref 73), some (.int l1), some (.int l2), some (.int 0), some (.int l1)] [] I J k := by
  refine (tt_f rfl).trans ?_
  refine tt_c.trans ?_
  refine (tt_f rfl).trans ?_
  refine (tt_is rfl rfl).trans ?_
  refine (tt_f rfl).trans ?_
  refine (tt_il rfl).trans ?_
  refine (tt_f rfl).trans ?_
  refine (tt_is rfl rfl).trans ?_
  rfl
theorem B45_5 {o1 : Option Value} {l2 : Int32} {l3 : Int32} {l4 : Int32}  : zd S 45 5 [some (.ref 73), o1, some (.int l2), some (.int l3), some (.int l4)] [] I J k = if l2 ≤ l4 then zd S 45 37 [some (.ref 73), none, some (.int l2), some (.int l3), some (.int l4)] [] I J k else zd S 45 11 [some (.ref 73), none, some (.int l2), some (.int l3), some (.int l4)] [] I J k := by
  refine (tt_fk rfl rfl).trans ?_
  refine (tt_il rfl).trans ?_
  refine (tt_f rfl).trans ?_
  refine (tt_il rfl).trans ?_
  refine (tt_f rfl).trans ?_
  exact tt_f2 (p := fun x y => y ≤ x) inferInstance rfl
theorem B45_11 {l2 : Int32} {l3 : Int32} {l4 : Int32} (hi1 : zin l4 480 = true) : zd S 45 11 [some (.ref 73), none, some (.int l2), some (.int l3), some (.int l4)] [] I J k = if ¬ (I 74 l4.toNatClampNeg) = 32 then zd S 45 28 [some (.ref 73), none, some (.int l2), some (.int l3), some (.int l4)] [.int l3] I J k else zd S 45 24 [some (.ref 73), none, some (.int l2), some (.int l3), some (.int l4)] [.int l3] I J k := by
  refine (tt_f rfl).trans ?_
  refine (tt_il rfl).trans ?_
  refine (tt_f rfl).trans ?_
  refine (tt_al rfl).trans ?_
  refine (tt_f rfl).trans ?_
  refine (tt_gr rfl rfl).trans ?_
  refine (tt_f rfl).trans ?_
  refine (tt_il rfl).trans ?_
  refine (tt_f rfl).trans ?_
  refine (tt_ga rfl rfl hi1).trans ?_
  refine (tt_f rfl).trans ?_
  refine tt_c.trans ?_
  refine (tt_f rfl).trans ?_
  exact tt_f2 (p := fun x y => ¬ x = y) inferInstance rfl
theorem B45_24 {l2 : Int32} {l3 : Int32} {l4 : Int32} {t0 : Int32}  : zd S 45 24 [some (.ref 73), none, some (.int l2), some (.int l3), some (.int l4)] [.int t0] I J k = zd S 45 5 [some (.ref 73), none, some (.int l2), some (.int (t0 + 1)), some (.int (l4 + 1))] [] I J k := by
  refine (tt_f rfl).trans ?_
  refine tt_c.trans ?_
  refine (tt_f rfl).trans ?_
  refine tt_go.trans ?_
  refine (tt_fk rfl rfl).trans ?_
  refine tt_bi.trans ?_
  refine (tt_f rfl).trans ?_
  refine (tt_is rfl rfl).trans ?_
  refine (tt_f rfl).trans ?_
  refine (tt_in rfl rfl).trans ?_
  refine (tt_f rfl).trans ?_
  refine tt_go.trans ?_
  rfl
theorem B45_28 {l2 : Int32} {l3 : Int32} {l4 : Int32} {t0 : Int32}  : zd S 45 28 [some (.ref 73), none, some (.int l2), some (.int l3), some (.int l4)] [.int t0] I J k = zd S 45 5 [some (.ref 73), none, some (.int l2), some (.int (t0 + 0)), some (.int (l4 + 1))] [] I J k := by
  refine (tt_f rfl).trans ?_
  refine tt_c.trans ?_
  refine (tt_fk rfl rfl).trans ?_
  refine tt_bi.trans ?_
  refine (tt_f rfl).trans ?_
  refine (tt_is rfl rfl).trans ?_
  refine (tt_f rfl).trans ?_
  refine (tt_in rfl rfl).trans ?_
  refine (tt_f rfl).trans ?_
  refine tt_go.trans ?_
  rfl
theorem B45_37 {l2 : Int32} {l3 : Int32} {l4 : Int32}  : zd S 45 37 [some (.ref 73), none, some (.int l2), some (.int l3), some (.int l4)] [] I J k = some ((some (.int l3)), mk I J, k) := by
  refine (tt_f rfl).trans ?_
  refine (tt_il rfl).trans ?_
  exact tt_r1 rfl rfl
/-! 46: Painter.widthOf -/
theorem B46_0 {l1 : Int32} {v1 : Int32} {I2 : zI} {J3 : zJ} (hb : Nat.ble k.1 (mBu 46).1 = true ∧ Nat.ble k.2 (mBu 46).2 = true) (hq : zq S 19 [.int l1] I J (some (.int v1)) I2 J3) : zd S 46 0 [some (.ref 73), some (.int l1)] [] I J k = zd S 46 4 [some (.ref 73), some (.int l1)] [.int v1] I2 J3 k := by
  refine (tt_f rfl).trans ?_
  refine (tt_il rfl).trans ?_
  exact tt_cs (vs := [.int l1]) rfl hb.1 hb.2 rfl rfl rfl rfl hq
theorem B46_4 {l1 : Int32} {t0 : Int32}  : zd S 46 4 [some (.ref 73), some (.int l1)] [.int t0] I J k = if t0 = 0 then zd S 46 19 [some (.ref 73), some (.int l1)] [] I J k else zd S 46 7 [some (.ref 73), some (.int l1)] [] I J k := by
  refine (tt_f rfl).trans ?_
  exact tt_f1 (p := fun x => x = 0) inferInstance rfl
theorem B46_7 {l1 : Int32} (hi1 : zin (l1 - 97) 26 = true) : zd S 46 7 [some (.ref 73), some (.int l1)] [] I J k = some ((some (.int (I 75 (l1 - 97).toNatClampNeg))), mk I J, k) := by
  refine (tt_f rfl).trans ?_
  refine (tt_al rfl).trans ?_
  refine (tt_f rfl).trans ?_
  refine (tt_gr rfl rfl).trans ?_
  refine (tt_f rfl).trans ?_
  refine (tt_il rfl).trans ?_
  refine (tt_f rfl).trans ?_
  refine tt_c.trans ?_
  refine (tt_f rfl).trans ?_
  refine tt_bi.trans ?_
  refine (tt_f rfl).trans ?_
  refine (tt_ga rfl rfl hi1).trans ?_
  refine (tt_f rfl).trans ?_
  refine tt_go.trans ?_
  exact tt_r1 rfl rfl
theorem B46_19 {l1 : Int32}  : zd S 46 19 [some (.ref 73), some (.int l1)] [] I J k = some ((some (.int 3)), mk I J, k) := by
  refine (tt_f rfl).trans ?_
  refine tt_c.trans ?_
  exact tt_r1 rfl rfl
/-! 48: Part.stand -/
theorem B48_0 {l1 : Int32} {l2 : Int32} {l3 : Int32} {l4 : Int32} {l5 : Int32} {s0 : Nat} {p0 : Nat} (hs0 : s0 < 4) (hp0 : p0 < 2) : zd S 48 0 [some (.ref (15 + 12 * s0 + 2 * p0)), some (.int l1), some (.int l2), some (.int l3), some (.int l4), some (.int l5)] [] I J k = zd S 48 5 [some (.ref (15 + 12 * s0 + 2 * p0)), some (.int l1), some (.int l2), some (.int l3), some (.int l4), some (.int l5)] [] (u2 I (15 + 12 * s0 + 2 * p0) 1 l1) J k := by
  refine (tt_f rfl).trans ?_
  refine (tt_al rfl).trans ?_
  refine (tt_f rfl).trans ?_
  refine (tt_il rfl).trans ?_
  refine (tt_f rfl).trans ?_
  exact tt_pi (shP hs0 hp0) rfl rfl
theorem B48_5 {l1 : Int32} {l2 : Int32} {l3 : Int32} {l4 : Int32} {l5 : Int32} {s0 : Nat} {p0 : Nat} (hs0 : s0 < 4) (hp0 : p0 < 2) : zd S 48 5 [some (.ref (15 + 12 * s0 + 2 * p0)), some (.int l1), some (.int l2), some (.int l3), some (.int l4), some (.int l5)] [] I J k = zd S 48 10 [some (.ref (15 + 12 * s0 + 2 * p0)), some (.int l1), some (.int l2), some (.int l3), some (.int l4), some (.int l5)] [] (u2 I (15 + 12 * s0 + 2 * p0) 2 l2) J k := by
  refine (tt_f rfl).trans ?_
  refine (tt_al rfl).trans ?_
  refine (tt_f rfl).trans ?_
  refine (tt_il rfl).trans ?_
  refine (tt_f rfl).trans ?_
  exact tt_pi (shP hs0 hp0) rfl rfl
theorem B48_10 {l1 : Int32} {l2 : Int32} {l3 : Int32} {l4 : Int32} {l5 : Int32} {s0 : Nat} {p0 : Nat} (hs0 : s0 < 4) (hp0 : p0 < 2) : zd S 48 10 [some (.ref (15 + 12 * s0 + 2 * p0)), some (.int l1), some (.int l2), some (.int l3), some (.int l4), some (.int l5)] [] I J k = zd S 48 15 [some (.ref (15 + 12 * s0 + 2 * p0)), some (.int l1), some (.int l2), some (.int l3), some (.int l4), some (.int l5)] [] (u2 I (15 + 12 * s0 + 2 * p0) 3 l3) J k := by
  refine (tt_f rfl).trans ?_
  refine (tt_al rfl).trans ?_
  refine (tt_f rfl).trans ?_
  refine (tt_il rfl).trans ?_
  refine (tt_f rfl).trans ?_
  exact tt_pi (shP hs0 hp0) rfl rfl
theorem B48_15 {l1 : Int32} {l2 : Int32} {l3 : Int32} {l4 : Int32} {l5 : Int32} {s0 : Nat} {p0 : Nat} (hs0 : s0 < 4) (hp0 : p0 < 2) : zd S 48 15 [some (.ref (15 + 12 * s0 + 2 * p0)), some (.int l1), some (.int l2), some (.int l3), some (.int l4), some (.int l5)] [] I J k = zd S 48 21 [some (.ref (15 + 12 * s0 + 2 * p0)), some (.int l1), some (.int l2), some (.int l3), some (.int l4), some (.int l5)] [] (u2 I (15 + 12 * s0 + 2 * p0) 4 l4) J k := by
  refine (tt_f rfl).trans ?_
  refine (tt_al rfl).trans ?_
  refine (tt_f rfl).trans ?_
  refine (tt_il rfl).trans ?_
  refine (tt_f rfl).trans ?_
  exact tt_pi (shP hs0 hp0) rfl rfl
theorem B48_21 {l1 : Int32} {l2 : Int32} {l3 : Int32} {l4 : Int32} {l5 : Int32} {s0 : Nat} {p0 : Nat} (hs0 : s0 < 4) (hp0 : p0 < 2) : zd S 48 21 [some (.ref (15 + 12 * s0 + 2 * p0)), some (.int l1), some (.int l2), some (.int l3), some (.int l4), some (.int l5)] [] I J k = zd S 48 27 [some (.ref (15 + 12 * s0 + 2 * p0)), some (.int l1), some (.int l2), some (.int l3), some (.int l4), some (.int l5)] [] (u2 I (15 + 12 * s0 + 2 * p0) 5 l5) J k := by
  refine (tt_f rfl).trans ?_
  refine (tt_al rfl).trans ?_
  refine (tt_f rfl).trans ?_
  refine (tt_il rfl).trans ?_
  refine (tt_f rfl).trans ?_
  exact tt_pi (shP hs0 hp0) rfl rfl
theorem B48_27 {l1 : Int32} {l2 : Int32} {l3 : Int32} {l4 : Int32} {l5 : Int32} {s0 : Nat} {p0 : Nat} (hs0 : s0 < 4) (hp0 : p0 < 2) : zd S 48 27 [some (.ref (15 + 12 * s0 + 2 * p0)), some (.int l1), some (.int l2), some (.int l3), some (.int l4), some (.int l5)] [] I J k = some (none, mk I J, k) := by
  exact tt_rv rfl
/-! 49: Part.takeLines -/
theorem B49_0 {l1 : Int32} {l2 : Int32} {s0 : Nat} {p0 : Nat} (hs0 : s0 < 4) (hp0 : p0 < 2) : zd S 49 0 [some (.ref (15 + 12 * s0 + 2 * p0)), some (.int l1), some (.int l2)] [] I J k = zd S 49 5 [some (.ref (15 + 12 * s0 + 2 * p0)), some (.int l1), some (.int l2)] [] (u2 I (15 + 12 * s0 + 2 * p0) 6 l1) J k := by
  refine (tt_f rfl).trans ?_
  refine (tt_al rfl).trans ?_
  refine (tt_f rfl).trans ?_
  refine (tt_il rfl).trans ?_
  refine (tt_f rfl).trans ?_
  exact tt_pi (shP hs0 hp0) rfl rfl
theorem B49_5 {l1 : Int32} {l2 : Int32} {s0 : Nat} {p0 : Nat} (hs0 : s0 < 4) (hp0 : p0 < 2) : zd S 49 5 [some (.ref (15 + 12 * s0 + 2 * p0)), some (.int l1), some (.int l2)] [] I J k = zd S 49 12 [some (.ref (15 + 12 * s0 + 2 * p0)), some (.int l1), some (.int l2)] [] (u2 I (15 + 12 * s0 + 2 * p0) 7 (l2 - l1)) J k := by
  refine (tt_f rfl).trans ?_
  refine (tt_al rfl).trans ?_
  refine (tt_f rfl).trans ?_
  refine (tt_il rfl).trans ?_
  refine (tt_f rfl).trans ?_
  refine (tt_il rfl).trans ?_
  refine (tt_f rfl).trans ?_
  refine tt_bi.trans ?_
  refine (tt_f rfl).trans ?_
  exact tt_pi (shP hs0 hp0) rfl rfl
theorem B49_12 {l1 : Int32} {l2 : Int32} {s0 : Nat} {p0 : Nat} (hs0 : s0 < 4) (hp0 : p0 < 2) : zd S 49 12 [some (.ref (15 + 12 * s0 + 2 * p0)), some (.int l1), some (.int l2)] [] I J k = some (none, mk I J, k) := by
  exact tt_rv rfl
/-! 50: Part.tell -/
theorem B50_0_0 {l1 : Int32} {s0 : Nat} {p0 : Nat} (hs0 : s0 < 4) (hp0 : p0 < 2) (hx : l1 = 0) : zd S 50 0 [some (.ref (15 + 12 * s0 + 2 * p0)), some (.int l1)] [] I J k = zd S 50 44 [some (.ref (15 + 12 * s0 + 2 * p0)), some (.int l1)] [] I J k := by
  refine (tt_f rfl).trans ?_
  refine (tt_il rfl).trans ?_
  refine (tt_f rfl).trans ?_
  subst hx
  exact tt_tsI (by decide) rfl
theorem B50_0_1 {l1 : Int32} {s0 : Nat} {p0 : Nat} (hs0 : s0 < 4) (hp0 : p0 < 2) (hx : l1 = 1) : zd S 50 0 [some (.ref (15 + 12 * s0 + 2 * p0)), some (.int l1)] [] I J k = zd S 50 49 [some (.ref (15 + 12 * s0 + 2 * p0)), some (.int l1)] [] I J k := by
  refine (tt_f rfl).trans ?_
  refine (tt_il rfl).trans ?_
  refine (tt_f rfl).trans ?_
  subst hx
  exact tt_tsI (by decide) rfl
theorem B50_0_2 {l1 : Int32} {s0 : Nat} {p0 : Nat} (hs0 : s0 < 4) (hp0 : p0 < 2) (hx : l1 = 2) : zd S 50 0 [some (.ref (15 + 12 * s0 + 2 * p0)), some (.int l1)] [] I J k = zd S 50 54 [some (.ref (15 + 12 * s0 + 2 * p0)), some (.int l1)] [] I J k := by
  refine (tt_f rfl).trans ?_
  refine (tt_il rfl).trans ?_
  refine (tt_f rfl).trans ?_
  subst hx
  exact tt_tsI (by decide) rfl
theorem B50_0_3 {l1 : Int32} {s0 : Nat} {p0 : Nat} (hs0 : s0 < 4) (hp0 : p0 < 2) (hx : l1 = 3) : zd S 50 0 [some (.ref (15 + 12 * s0 + 2 * p0)), some (.int l1)] [] I J k = zd S 50 59 [some (.ref (15 + 12 * s0 + 2 * p0)), some (.int l1)] [] I J k := by
  refine (tt_f rfl).trans ?_
  refine (tt_il rfl).trans ?_
  refine (tt_f rfl).trans ?_
  subst hx
  exact tt_tsI (by decide) rfl
theorem B50_0_4 {l1 : Int32} {s0 : Nat} {p0 : Nat} (hs0 : s0 < 4) (hp0 : p0 < 2) (hx : l1 = 4) : zd S 50 0 [some (.ref (15 + 12 * s0 + 2 * p0)), some (.int l1)] [] I J k = zd S 50 64 [some (.ref (15 + 12 * s0 + 2 * p0)), some (.int l1)] [] I J k := by
  refine (tt_f rfl).trans ?_
  refine (tt_il rfl).trans ?_
  refine (tt_f rfl).trans ?_
  subst hx
  exact tt_tsI (by decide) rfl
theorem B50_0_5 {l1 : Int32} {s0 : Nat} {p0 : Nat} (hs0 : s0 < 4) (hp0 : p0 < 2) (hx : l1 = 5) : zd S 50 0 [some (.ref (15 + 12 * s0 + 2 * p0)), some (.int l1)] [] I J k = zd S 50 69 [some (.ref (15 + 12 * s0 + 2 * p0)), some (.int l1)] [] I J k := by
  refine (tt_f rfl).trans ?_
  refine (tt_il rfl).trans ?_
  refine (tt_f rfl).trans ?_
  subst hx
  exact tt_tsI (by decide) rfl
theorem B50_0_6 {l1 : Int32} {s0 : Nat} {p0 : Nat} (hs0 : s0 < 4) (hp0 : p0 < 2) (hx : l1 = 6) : zd S 50 0 [some (.ref (15 + 12 * s0 + 2 * p0)), some (.int l1)] [] I J k = zd S 50 74 [some (.ref (15 + 12 * s0 + 2 * p0)), some (.int l1)] [] I J k := by
  refine (tt_f rfl).trans ?_
  refine (tt_il rfl).trans ?_
  refine (tt_f rfl).trans ?_
  subst hx
  exact tt_tsI (by decide) rfl
theorem B50_0_d {l1 : Int32} {s0 : Nat} {p0 : Nat} (hs0 : s0 < 4) (hp0 : p0 < 2) (hx : (l1).toInt < 0 ∨ 6 < (l1).toInt) : zd S 50 0 [some (.ref (15 + 12 * s0 + 2 * p0)), some (.int l1)] [] I J k = zd S 50 79 [some (.ref (15 + 12 * s0 + 2 * p0)), some (.int l1)] [] I J k := by
  refine (tt_f rfl).trans ?_
  refine (tt_il rfl).trans ?_
  refine (tt_f rfl).trans ?_
  exact tt_tsO hx
theorem B50_44 {l1 : Int32} {s0 : Nat} {p0 : Nat} (hs0 : s0 < 4) (hp0 : p0 < 2) : zd S 50 44 [some (.ref (15 + 12 * s0 + 2 * p0)), some (.int l1)] [] I J k = some ((some (.int (I (15 + 12 * s0 + 2 * p0) 1))), mk I J, k) := by
  refine (tt_f rfl).trans ?_
  refine (tt_al rfl).trans ?_
  refine (tt_f rfl).trans ?_
  refine (tt_gi (shP hs0 hp0) rfl).trans ?_
  exact tt_r1 rfl rfl
theorem B50_49 {l1 : Int32} {s0 : Nat} {p0 : Nat} (hs0 : s0 < 4) (hp0 : p0 < 2) : zd S 50 49 [some (.ref (15 + 12 * s0 + 2 * p0)), some (.int l1)] [] I J k = some ((some (.int (I (15 + 12 * s0 + 2 * p0) 2))), mk I J, k) := by
  refine (tt_f rfl).trans ?_
  refine (tt_al rfl).trans ?_
  refine (tt_f rfl).trans ?_
  refine (tt_gi (shP hs0 hp0) rfl).trans ?_
  exact tt_r1 rfl rfl
theorem B50_54 {l1 : Int32} {s0 : Nat} {p0 : Nat} (hs0 : s0 < 4) (hp0 : p0 < 2) : zd S 50 54 [some (.ref (15 + 12 * s0 + 2 * p0)), some (.int l1)] [] I J k = some ((some (.int (I (15 + 12 * s0 + 2 * p0) 3))), mk I J, k) := by
  refine (tt_f rfl).trans ?_
  refine (tt_al rfl).trans ?_
  refine (tt_f rfl).trans ?_
  refine (tt_gi (shP hs0 hp0) rfl).trans ?_
  exact tt_r1 rfl rfl
theorem B50_59 {l1 : Int32} {s0 : Nat} {p0 : Nat} (hs0 : s0 < 4) (hp0 : p0 < 2) : zd S 50 59 [some (.ref (15 + 12 * s0 + 2 * p0)), some (.int l1)] [] I J k = some ((some (.int (I (15 + 12 * s0 + 2 * p0) 4))), mk I J, k) := by
  refine (tt_f rfl).trans ?_
  refine (tt_al rfl).trans ?_
  refine (tt_f rfl).trans ?_
  refine (tt_gi (shP hs0 hp0) rfl).trans ?_
  exact tt_r1 rfl rfl
theorem B50_64 {l1 : Int32} {s0 : Nat} {p0 : Nat} (hs0 : s0 < 4) (hp0 : p0 < 2) : zd S 50 64 [some (.ref (15 + 12 * s0 + 2 * p0)), some (.int l1)] [] I J k = some ((some (.int (I (15 + 12 * s0 + 2 * p0) 5))), mk I J, k) := by
  refine (tt_f rfl).trans ?_
  refine (tt_al rfl).trans ?_
  refine (tt_f rfl).trans ?_
  refine (tt_gi (shP hs0 hp0) rfl).trans ?_
  exact tt_r1 rfl rfl
theorem B50_69 {l1 : Int32} {s0 : Nat} {p0 : Nat} (hs0 : s0 < 4) (hp0 : p0 < 2) : zd S 50 69 [some (.ref (15 + 12 * s0 + 2 * p0)), some (.int l1)] [] I J k = some ((some (.int (I (15 + 12 * s0 + 2 * p0) 6))), mk I J, k) := by
  refine (tt_f rfl).trans ?_
  refine (tt_al rfl).trans ?_
  refine (tt_f rfl).trans ?_
  refine (tt_gi (shP hs0 hp0) rfl).trans ?_
  exact tt_r1 rfl rfl
theorem B50_74 {l1 : Int32} {s0 : Nat} {p0 : Nat} (hs0 : s0 < 4) (hp0 : p0 < 2) : zd S 50 74 [some (.ref (15 + 12 * s0 + 2 * p0)), some (.int l1)] [] I J k = some ((some (.int (I (15 + 12 * s0 + 2 * p0) 7))), mk I J, k) := by
  refine (tt_f rfl).trans ?_
  refine (tt_al rfl).trans ?_
  refine (tt_f rfl).trans ?_
  refine (tt_gi (shP hs0 hp0) rfl).trans ?_
  exact tt_r1 rfl rfl
theorem B50_79 {l1 : Int32} {s0 : Nat} {p0 : Nat} (hs0 : s0 < 4) (hp0 : p0 < 2) : zd S 50 79 [some (.ref (15 + 12 * s0 + 2 * p0)), some (.int l1)] [] I J k = if l1 < 7 then zd S 50 103 [some (.ref (15 + 12 * s0 + 2 * p0)), some (.int l1)] [] I J k else zd S 50 85 [some (.ref (15 + 12 * s0 + 2 * p0)), some (.int l1)] [] I J k := by
  refine (tt_f rfl).trans ?_
  refine (tt_il rfl).trans ?_
  refine (tt_f rfl).trans ?_
  refine tt_c.trans ?_
  refine (tt_f rfl).trans ?_
  exact tt_f2 (p := fun x y => x < y) inferInstance rfl
theorem B50_85 {l1 : Int32} {s0 : Nat} {p0 : Nat} (hs0 : s0 < 4) (hp0 : p0 < 2) : zd S 50 85 [some (.ref (15 + 12 * s0 + 2 * p0)), some (.int l1)] [] I J k = if 11 ≤ l1 then zd S 50 103 [some (.ref (15 + 12 * s0 + 2 * p0)), some (.int l1)] [] I J k else zd S 50 91 [some (.ref (15 + 12 * s0 + 2 * p0)), some (.int l1)] [] I J k := by
  refine (tt_f rfl).trans ?_
  refine (tt_il rfl).trans ?_
  refine (tt_f rfl).trans ?_
  refine tt_c.trans ?_
  refine (tt_f rfl).trans ?_
  exact tt_f2 (p := fun x y => y ≤ x) inferInstance rfl
theorem B50_91 {l1 : Int32} {s0 : Nat} {p0 : Nat} (hs0 : s0 < 4) (hp0 : p0 < 2) (hi1 : zin (l1 - 7) 4 = true) : zd S 50 91 [some (.ref (15 + 12 * s0 + 2 * p0)), some (.int l1)] [] I J k = some ((some (.int (I (16 + 12 * s0 + 2 * p0) (l1 - 7).toNatClampNeg))), mk I J, k) := by
  refine (tt_f rfl).trans ?_
  refine (tt_al rfl).trans ?_
  refine (tt_f rfl).trans ?_
  refine (tt_gr (shP hs0 hp0) rfl).trans ?_
  refine (tt_f rfl).trans ?_
  refine (tt_il rfl).trans ?_
  refine (tt_f rfl).trans ?_
  refine tt_c.trans ?_
  refine (tt_f rfl).trans ?_
  refine tt_bi.trans ?_
  refine (tt_f rfl).trans ?_
  refine (tt_ga (shPa hs0 hp0) rfl hi1).trans ?_
  refine (tt_f rfl).trans ?_
  refine tt_go.trans ?_
  exact tt_r1 rfl rfl
theorem B50_103 {l1 : Int32} {s0 : Nat} {p0 : Nat} (hs0 : s0 < 4) (hp0 : p0 < 2) : zd S 50 103 [some (.ref (15 + 12 * s0 + 2 * p0)), some (.int l1)] [] I J k = some ((some (.int (-1))), mk I J, k) := by
  refine (tt_fk rfl rfl).trans ?_
  refine tt_c.trans ?_
  exact tt_r1 rfl rfl
/-! 52: PatternBook.put -/
theorem B52_0 {l1 : Int64} {l3 : Int32} {l4 : Int64} {v1 : Int32} {I2 : zI} {J3 : zJ} (hb : Nat.ble k.1 (mBu 52).1 = true ∧ Nat.ble k.2 (mBu 52).2 = true) (hq : zq S 56 [.long l1, .int l3] I J (some (.int v1)) I2 J3) : zd S 52 0 [some (.ref 56), some (.long l1), none, some (.int l3), some (.long l4), none, none, none, none] [] I J k = zd S 52 5 [some (.ref 56), some (.long l1), none, some (.int l3), some (.long l4), none, none, none, none] [.int v1] I2 J3 k := by
  refine (tt_f rfl).trans ?_
  refine (tt_ll rfl).trans ?_
  refine (tt_f rfl).trans ?_
  refine (tt_il rfl).trans ?_
  exact tt_cs (vs := [.long l1, .int l3]) rfl hb.1 hb.2 rfl rfl rfl rfl hq
theorem B52_5 {l1 : Int64} {l3 : Int32} {l4 : Int64} {t0 : Int32}  : zd S 52 5 [some (.ref 56), some (.long l1), none, some (.int l3), some (.long l4), none, none, none, none] [.int t0] I J k = if t0 = 0 then zd S 52 19 [some (.ref 56), some (.long l1), none, some (.int l3), some (.long l4), none, none, none, none] [] I J k else zd S 52 8 [some (.ref 56), some (.long l1), none, some (.int l3), some (.long l4), none, none, none, none] [] I J k := by
  refine (tt_f rfl).trans ?_
  exact tt_f1 (p := fun x => x = 0) inferInstance rfl
theorem B52_8 {l1 : Int64} {l3 : Int32} {l4 : Int64} {v1 : Int32} {I2 : zI} {J3 : zJ} (hb : Nat.ble k.1 (mBu 52).1 = true ∧ Nat.ble k.2 (mBu 52).2 = true) (hq : zq S 57 [.long l4, .int (l3 + 1)] I J (some (.int v1)) I2 J3) : zd S 52 8 [some (.ref 56), some (.long l1), none, some (.int l3), some (.long l4), none, none, none, none] [] I J k = zd S 52 16 [some (.ref 56), some (.long l1), none, some (.int l3), some (.long l4), none, none, none, none] [.int v1] I2 J3 k := by
  refine (tt_f rfl).trans ?_
  refine (tt_ll rfl).trans ?_
  refine (tt_f rfl).trans ?_
  refine (tt_il rfl).trans ?_
  refine (tt_f rfl).trans ?_
  refine tt_c.trans ?_
  refine (tt_f rfl).trans ?_
  refine tt_bi.trans ?_
  exact tt_cs (vs := [.long l4, .int (l3 + 1)]) rfl hb.1 hb.2 rfl rfl rfl rfl hq
theorem B52_16 {l1 : Int64} {l3 : Int32} {l4 : Int64} {t0 : Int32}  : zd S 52 16 [some (.ref 56), some (.long l1), none, some (.int l3), some (.long l4), none, none, none, none] [.int t0] I J k = if ¬ t0 = 0 then zd S 52 21 [some (.ref 56), some (.long l1), none, some (.int l3), some (.long l4), none, none, none, none] [] I J k else zd S 52 19 [some (.ref 56), some (.long l1), none, some (.int l3), some (.long l4), none, none, none, none] [] I J k := by
  refine (tt_f rfl).trans ?_
  exact tt_f1 (p := fun x => ¬ x = 0) inferInstance rfl
theorem B52_19 {l1 : Int64} {l3 : Int32} {l4 : Int64}  : zd S 52 19 [some (.ref 56), some (.long l1), none, some (.int l3), some (.long l4), none, none, none, none] [] I J k = some ((some (.int (-1))), mk I J, k) := by
  refine (tt_fk rfl rfl).trans ?_
  refine tt_c.trans ?_
  exact tt_r1 rfl rfl
theorem B52_21 {l1 : Int64} {l3 : Int32} {l4 : Int64} {v1 : Int64} {I2 : zI} {J3 : zJ} (hb : Nat.ble k.1 (mBu 52).1 = true ∧ Nat.ble k.2 (mBu 52).2 = true) (hq : zq S 58 [.int l3] I J (some (.long v1)) I2 J3) : zd S 52 21 [some (.ref 56), some (.long l1), none, some (.int l3), some (.long l4), none, none, none, none] [] I J k = zd S 52 26 [some (.ref 56), some (.long l1), none, some (.int l3), some (.long l4), none, none, none, none] [.long v1, .long l1] I2 J3 k := by
  refine (tt_f rfl).trans ?_
  refine (tt_ll rfl).trans ?_
  refine (tt_f rfl).trans ?_
  refine (tt_il rfl).trans ?_
  exact tt_cs (vs := [.int l3]) rfl hb.1 hb.2 rfl rfl rfl rfl hq
theorem B52_26 {l1 : Int64} {l3 : Int32} {l4 : Int64} {t0 : Int64} {t1 : Int64} {v1 : Int32} {I2 : zI} {J3 : zJ} (hb : Nat.ble k.1 (mBu 52).1 = true ∧ Nat.ble k.2 (mBu 52).2 = true) (hq : zq S 55 [.ref 56, .long (t0 &&& t1)] I J (some (.int v1)) I2 J3) : zd S 52 26 [some (.ref 56), some (.long l1), none, some (.int l3), some (.long l4), none, none, none, none] [.long t1, .long t0] I J k = zd S 52 35 [some (.ref 56), some (.long l1), none, some (.int l3), some (.long l4), none, some (.long (t0 &&& t1)), none, none] [.int v1] I2 J3 k := by
  refine (tt_f rfl).trans ?_
  refine tt_bl.trans ?_
  refine (tt_f rfl).trans ?_
  refine (tt_ls rfl rfl).trans ?_
  refine (tt_f rfl).trans ?_
  refine (tt_al rfl).trans ?_
  refine (tt_f rfl).trans ?_
  refine (tt_ll rfl).trans ?_
  exact tt_cv (As := [.long (t0 &&& t1)]) rfl hb.1 hb.2 rfl rfl rfl rfl rfl hq
theorem B52_35 {l1 : Int64} {l3 : Int32} {l4 : Int64} {l6 : Int64} {t0 : Int32}  : zd S 52 35 [some (.ref 56), some (.long l1), none, some (.int l3), some (.long l4), none, some (.long l6), none, none] [.int t0] I J k = if t0 < 20 then zd S 52 47 [some (.ref 56), some (.long l1), none, some (.int l3), some (.long l4), none, some (.long l6), none, some (.int t0)] [] I J k else zd S 52 44 [some (.ref 56), some (.long l1), none, some (.int l3), some (.long l4), none, some (.long l6), none, some (.int t0)] [] I J k := by
  refine (tt_f rfl).trans ?_
  refine (tt_is rfl rfl).trans ?_
  refine (tt_f rfl).trans ?_
  refine (tt_il rfl).trans ?_
  refine (tt_f rfl).trans ?_
  refine tt_c.trans ?_
  refine (tt_f rfl).trans ?_
  exact tt_f2 (p := fun x y => x < y) inferInstance rfl
theorem B52_44 {l1 : Int64} {l3 : Int32} {l4 : Int64} {l6 : Int64} {l8 : Int32}  : zd S 52 44 [some (.ref 56), some (.long l1), none, some (.int l3), some (.long l4), none, some (.long l6), none, some (.int l8)] [] I J k = some ((some (.int (-2))), mk I J, k) := by
  refine (tt_f rfl).trans ?_
  refine tt_c.trans ?_
  exact tt_r1 rfl rfl
theorem B52_47 {l1 : Int64} {l3 : Int32} {l4 : Int64} {l6 : Int64} {l8 : Int32} (hi1 : zin l8 20 = true) : zd S 52 47 [some (.ref 56), some (.long l1), none, some (.int l3), some (.long l4), none, some (.long l6), none, some (.int l8)] [] I J k = zd S 52 56 [some (.ref 56), some (.long l1), none, some (.int l3), some (.long l4), none, some (.long l6), none, some (.int l8)] [] I (v2 J 57 l8.toNatClampNeg l6) k := by
  refine (tt_f rfl).trans ?_
  refine (tt_al rfl).trans ?_
  refine (tt_f rfl).trans ?_
  refine (tt_gr rfl rfl).trans ?_
  refine (tt_f rfl).trans ?_
  refine (tt_il rfl).trans ?_
  refine (tt_f rfl).trans ?_
  refine (tt_ll rfl).trans ?_
  refine (tt_f rfl).trans ?_
  exact tt_pl rfl hi1
theorem B52_56 {l1 : Int64} {l3 : Int32} {l4 : Int64} {l6 : Int64} {l8 : Int32} (hi1 : zin l8 20 = true) : zd S 52 56 [some (.ref 56), some (.long l1), none, some (.int l3), some (.long l4), none, some (.long l6), none, some (.int l8)] [] I J k = zd S 52 64 [some (.ref 56), some (.long l1), none, some (.int l3), some (.long l4), none, some (.long l6), none, some (.int l8)] [] (u2 I 59 l8.toNatClampNeg l3) J k := by
  refine (tt_f rfl).trans ?_
  refine (tt_al rfl).trans ?_
  refine (tt_f rfl).trans ?_
  refine (tt_gr rfl rfl).trans ?_
  refine (tt_f rfl).trans ?_
  refine (tt_il rfl).trans ?_
  refine (tt_f rfl).trans ?_
  refine (tt_il rfl).trans ?_
  refine (tt_f rfl).trans ?_
  exact tt_pa rfl rfl hi1
theorem B52_64 {l1 : Int64} {l3 : Int32} {l4 : Int64} {l6 : Int64} {l8 : Int32} (hi1 : zin l8 20 = true) : zd S 52 64 [some (.ref 56), some (.long l1), none, some (.int l3), some (.long l4), none, some (.long l6), none, some (.int l8)] [] I J k = zd S 52 73 [some (.ref 56), some (.long l1), none, some (.int l3), some (.long l4), none, some (.long l6), none, some (.int l8)] [] I (v2 J 58 l8.toNatClampNeg l4) k := by
  refine (tt_f rfl).trans ?_
  refine (tt_al rfl).trans ?_
  refine (tt_f rfl).trans ?_
  refine (tt_gr rfl rfl).trans ?_
  refine (tt_f rfl).trans ?_
  refine (tt_il rfl).trans ?_
  refine (tt_f rfl).trans ?_
  refine (tt_ll rfl).trans ?_
  refine (tt_f rfl).trans ?_
  exact tt_pl rfl hi1
theorem B52_73 {l1 : Int64} {l3 : Int32} {l4 : Int64} {l6 : Int64} {l8 : Int32} (hb : Nat.ble k.1 (mBu 52).1 = true ∧ Nat.ble k.2 (mBu 52).2 = true)  : zd S 52 73 [some (.ref 56), some (.long l1), none, some (.int l3), some (.long l4), none, some (.long l6), none, some (.int l8)] [] I J k = zd S 52 88 [some (.ref 56), some (.long l1), none, some (.int l3), some (.long l4), none, some (.long l6), none, some (.int l8)] [] (u2 I 56 4 (if (I 56 4) < (l8 + 1) then (l8 + 1) else (I 56 4))) J k := by
  refine (tt_f rfl).trans ?_
  refine (tt_al rfl).trans ?_
  refine (tt_f rfl).trans ?_
  refine (tt_al rfl).trans ?_
  refine (tt_f rfl).trans ?_
  refine (tt_gi rfl rfl).trans ?_
  refine (tt_f rfl).trans ?_
  refine (tt_il rfl).trans ?_
  refine (tt_f rfl).trans ?_
  refine tt_c.trans ?_
  refine (tt_f rfl).trans ?_
  refine tt_bi.trans ?_
  refine (tt_f rfl).trans ?_
  refine (tt_mm rfl hb.1 hb.2).trans ?_
  refine (tt_f rfl).trans ?_
  exact tt_pi rfl rfl rfl
theorem B52_88 {l1 : Int64} {l3 : Int32} {l4 : Int64} {l6 : Int64} {l8 : Int32}  : zd S 52 88 [some (.ref 56), some (.long l1), none, some (.int l3), some (.long l4), none, some (.long l6), none, some (.int l8)] [] I J k = some ((some (.int (I 56 4))), mk I J, k) := by
  refine (tt_f rfl).trans ?_
  refine (tt_al rfl).trans ?_
  refine (tt_f rfl).trans ?_
  refine (tt_gi rfl rfl).trans ?_
  exact tt_r1 rfl rfl
/-! 53: PatternBook.cutsOf -/
theorem B53_0 {l2 : Int32} {l3 : Int32} {c1 n1 : Nat} {I1 : zI} {J2 : zJ} (hb : Nat.ble k.1 (mBu 53).1 = true ∧ Nat.ble k.2 (mBu 53).2 = true) (hc1 : zShL[c1]? = some (.inr (.inl (2, n1)))) (hq : zq S 149 [.ref 60, .int 0] I J none I1 J2) : zd S 53 0 [some (.ref 56), some (.ref c1), some (.int l2), some (.int l3), none, none, none, none, none] [] I J k = zd S 53 18 [some (.ref 56), some (.ref c1), some (.int l2), some (.int l3), some (.int (if 12 < (l3 - l2) then 12 else (l3 - l2))), none, none, none, none] [] I1 J2 k := by
  refine (tt_f rfl).trans ?_
  refine (tt_il rfl).trans ?_
  refine (tt_f rfl).trans ?_
  refine (tt_il rfl).trans ?_
  refine (tt_f rfl).trans ?_
  refine tt_bi.trans ?_
  refine (tt_f rfl).trans ?_
  refine tt_c.trans ?_
  refine (tt_f rfl).trans ?_
  refine (tt_mm rfl hb.1 hb.2).trans ?_
  refine (tt_f rfl).trans ?_
  refine (tt_is rfl rfl).trans ?_
  refine (tt_f rfl).trans ?_
  refine (tt_al rfl).trans ?_
  refine (tt_f rfl).trans ?_
  refine (tt_gr rfl rfl).trans ?_
  refine (tt_f rfl).trans ?_
  refine tt_c.trans ?_
  exact tt_cs (vs := [.ref 60, .int 0]) rfl hb.1 hb.2 rfl rfl rfl rfl hq
theorem B53_18 {l2 : Int32} {l3 : Int32} {l4 : Int32} {c1 n1 : Nat} (hc1 : zShL[c1]? = some (.inr (.inl (2, n1)))) : zd S 53 18 [some (.ref 56), some (.ref c1), some (.int l2), some (.int l3), some (.int l4), none, none, none, none] [] I J k = zd S 53 24 [some (.ref 56), some (.ref c1), some (.int l2), some (.int l3), some (.int l4), some (.long 0), none, some (.int 0), none] [] I J k := by
  refine (tt_f rfl).trans ?_
  refine tt_c.trans ?_
  refine (tt_f rfl).trans ?_
  refine (tt_ls rfl rfl).trans ?_
  refine (tt_f rfl).trans ?_
  refine tt_c.trans ?_
  refine (tt_f rfl).trans ?_
  refine (tt_is rfl rfl).trans ?_
  rfl
theorem B53_24 {l2 : Int32} {o3 : Option Value} {l4 : Int32} {l5 : Int64} {l7 : Int32} {c1 n1 : Nat} (hc1 : zShL[c1]? = some (.inr (.inl (2, n1)))) : zd S 53 24 [some (.ref 56), some (.ref c1), some (.int l2), o3, some (.int l4), some (.long l5), none, some (.int l7), none] [] I J k = if (l4 + 2) ≤ l7 then zd S 53 97 [some (.ref 56), some (.ref c1), some (.int l2), none, some (.int l4), some (.long l5), none, some (.int l7), none] [] I J k else zd S 53 33 [some (.ref 56), some (.ref c1), some (.int l2), none, some (.int l4), some (.long l5), none, some (.int l7), none] [] I J k := by
  refine (tt_fk rfl rfl).trans ?_
  refine (tt_il rfl).trans ?_
  refine (tt_f rfl).trans ?_
  refine (tt_il rfl).trans ?_
  refine (tt_f rfl).trans ?_
  refine tt_c.trans ?_
  refine (tt_f rfl).trans ?_
  refine tt_bi.trans ?_
  refine (tt_f rfl).trans ?_
  exact tt_f2 (p := fun x y => y ≤ x) inferInstance rfl
theorem B53_33 {l2 : Int32} {l4 : Int32} {l5 : Int64} {l7 : Int32} {c1 n1 : Nat} (hc1 : zShL[c1]? = some (.inr (.inl (2, n1)))) : zd S 53 33 [some (.ref 56), some (.ref c1), some (.int l2), none, some (.int l4), some (.long l5), none, some (.int l7), none] [] I J k = if l7 = 0 then zd S 53 47 [some (.ref 56), some (.ref c1), some (.int l2), none, some (.int l4), some (.long l5), none, some (.int l7), none] [] I J k else zd S 53 38 [some (.ref 56), some (.ref c1), some (.int l2), none, some (.int l4), some (.long l5), none, some (.int l7), none] [] I J k := by
  refine (tt_f rfl).trans ?_
  refine (tt_il rfl).trans ?_
  refine (tt_f rfl).trans ?_
  exact tt_f1 (p := fun x => x = 0) inferInstance rfl
theorem B53_38 {l2 : Int32} {l4 : Int32} {l5 : Int64} {l7 : Int32} {c1 n1 : Nat} (hc1 : zShL[c1]? = some (.inr (.inl (2, n1)))) : zd S 53 38 [some (.ref 56), some (.ref c1), some (.int l2), none, some (.int l4), some (.long l5), none, some (.int l7), none] [] I J k = if ¬ l7 = (l4 + 1) then zd S 53 51 [some (.ref 56), some (.ref c1), some (.int l2), none, some (.int l4), some (.long l5), none, some (.int l7), none] [] I J k else zd S 53 47 [some (.ref 56), some (.ref c1), some (.int l2), none, some (.int l4), some (.long l5), none, some (.int l7), none] [] I J k := by
  refine (tt_f rfl).trans ?_
  refine (tt_il rfl).trans ?_
  refine (tt_f rfl).trans ?_
  refine (tt_il rfl).trans ?_
  refine (tt_f rfl).trans ?_
  refine tt_c.trans ?_
  refine (tt_f rfl).trans ?_
  refine tt_bi.trans ?_
  refine (tt_f rfl).trans ?_
  exact tt_f2 (p := fun x y => ¬ x = y) inferInstance rfl
theorem B53_47 {l2 : Int32} {l4 : Int32} {l5 : Int64} {l7 : Int32} {c1 n1 : Nat} (hc1 : zShL[c1]? = some (.inr (.inl (2, n1)))) : zd S 53 47 [some (.ref 56), some (.ref c1), some (.int l2), none, some (.int l4), some (.long l5), none, some (.int l7), none] [] I J k = if 1 = 0 then zd S 53 69 [some (.ref 56), some (.ref c1), some (.int l2), none, some (.int l4), some (.long l5), none, some (.int l7), some (.int 1)] [.long (l5 <<< ((8 : Int32).toInt64 &&& 63))] I J k else zd S 53 64 [some (.ref 56), some (.ref c1), some (.int l2), none, some (.int l4), some (.long l5), none, some (.int l7), some (.int 1)] [.long (l5 <<< ((8 : Int32).toInt64 &&& 63))] I J k := by
  refine (tt_fk rfl rfl).trans ?_
  refine tt_c.trans ?_
  refine (tt_f rfl).trans ?_
  refine tt_go.trans ?_
  refine (tt_fk rfl rfl).trans ?_
  refine (tt_is rfl rfl).trans ?_
  refine (tt_f rfl).trans ?_
  refine (tt_ll rfl).trans ?_
  refine (tt_f rfl).trans ?_
  refine tt_c.trans ?_
  refine (tt_f rfl).trans ?_
  refine tt_sl.trans ?_
  refine (tt_f rfl).trans ?_
  refine (tt_il rfl).trans ?_
  refine (tt_f rfl).trans ?_
  exact tt_f1 (p := fun x => x = 0) inferInstance rfl
theorem B53_51 {l2 : Int32} {l4 : Int32} {l5 : Int64} {l7 : Int32} {c1 n1 : Nat} (hc1 : zShL[c1]? = some (.inr (.inl (2, n1)))) : zd S 53 51 [some (.ref 56), some (.ref c1), some (.int l2), none, some (.int l4), some (.long l5), none, some (.int l7), none] [] I J k = if 0 = 0 then zd S 53 69 [some (.ref 56), some (.ref c1), some (.int l2), none, some (.int l4), some (.long l5), none, some (.int l7), some (.int 0)] [.long (l5 <<< ((8 : Int32).toInt64 &&& 63))] I J k else zd S 53 64 [some (.ref 56), some (.ref c1), some (.int l2), none, some (.int l4), some (.long l5), none, some (.int l7), some (.int 0)] [.long (l5 <<< ((8 : Int32).toInt64 &&& 63))] I J k := by
  refine (tt_f rfl).trans ?_
  refine tt_c.trans ?_
  refine (tt_fk rfl rfl).trans ?_
  refine (tt_is rfl rfl).trans ?_
  refine (tt_f rfl).trans ?_
  refine (tt_ll rfl).trans ?_
  refine (tt_f rfl).trans ?_
  refine tt_c.trans ?_
  refine (tt_f rfl).trans ?_
  refine tt_sl.trans ?_
  refine (tt_f rfl).trans ?_
  refine (tt_il rfl).trans ?_
  refine (tt_f rfl).trans ?_
  exact tt_f1 (p := fun x => x = 0) inferInstance rfl
theorem B53_64 {l2 : Int32} {l4 : Int32} {l5 : Int64} {l7 : Int32} {l8 : Int32} {t0 : Int64} {c1 n1 : Nat} {I1 : zI} {J2 : zJ} (hb : Nat.ble k.1 (mBu 53).1 = true ∧ Nat.ble k.2 (mBu 53).2 = true) (hc1 : zShL[c1]? = some (.inr (.inl (2, n1)))) (hq : zq S 54 [.ref 56, .long (t0 ||| ((46 : Int32)).toInt64), .int (l7 + 1)] I J none I1 J2) : zd S 53 64 [some (.ref 56), some (.ref c1), some (.int l2), none, some (.int l4), some (.long l5), none, some (.int l7), some (.int l8)] [.long t0] I J k = zd S 53 91 [some (.ref 56), some (.ref c1), some (.int l2), none, some (.int l4), some (.long (t0 ||| ((46 : Int32)).toInt64)), none, some (.int l7), none] [] I1 J2 k := by
  refine (tt_f rfl).trans ?_
  refine tt_c.trans ?_
  refine (tt_f rfl).trans ?_
  refine tt_go.trans ?_
  refine (tt_fk rfl rfl).trans ?_
  refine tt_i2l.trans ?_
  refine (tt_f rfl).trans ?_
  refine tt_bl.trans ?_
  refine (tt_f rfl).trans ?_
  refine (tt_ls rfl rfl).trans ?_
  refine (tt_f rfl).trans ?_
  refine (tt_al rfl).trans ?_
  refine (tt_f rfl).trans ?_
  refine (tt_ll rfl).trans ?_
  refine (tt_f rfl).trans ?_
  refine (tt_il rfl).trans ?_
  refine (tt_f rfl).trans ?_
  refine tt_c.trans ?_
  refine (tt_f rfl).trans ?_
  refine tt_bi.trans ?_
  exact tt_cv (As := [.long (t0 ||| ((46 : Int32)).toInt64), .int (l7 + 1)]) rfl hb.1 hb.2 rfl rfl rfl rfl rfl hq
theorem B53_69 {l2 : Int32} {l4 : Int32} {l5 : Int64} {l7 : Int32} {l8 : Int32} {t0 : Int64} {c1 n1 : Nat} {I2 : zI} {J3 : zJ} (hb : Nat.ble k.1 (mBu 53).1 = true ∧ Nat.ble k.2 (mBu 53).2 = true) (hc1 : zShL[c1]? = some (.inr (.inl (2, n1)))) (hi1 : zin ((l2 + l7) - 1) n1 = true) (hq : zq S 54 [.ref 56, .long (t0 ||| ((I c1 ((l2 + l7) - 1).toNatClampNeg)).toInt64), .int (l7 + 1)] I J none I2 J3) : zd S 53 69 [some (.ref 56), some (.ref c1), some (.int l2), none, some (.int l4), some (.long l5), none, some (.int l7), some (.int l8)] [.long t0] I J k = zd S 53 91 [some (.ref 56), some (.ref c1), some (.int l2), none, some (.int l4), some (.long (t0 ||| ((I c1 ((l2 + l7) - 1).toNatClampNeg)).toInt64)), none, some (.int l7), none] [] I2 J3 k := by
  refine (tt_f rfl).trans ?_
  refine (tt_al rfl).trans ?_
  refine (tt_f rfl).trans ?_
  refine (tt_il rfl).trans ?_
  refine (tt_f rfl).trans ?_
  refine (tt_il rfl).trans ?_
  refine (tt_f rfl).trans ?_
  refine tt_bi.trans ?_
  refine (tt_f rfl).trans ?_
  refine tt_c.trans ?_
  refine (tt_f rfl).trans ?_
  refine tt_bi.trans ?_
  refine (tt_f rfl).trans ?_
  refine (tt_ga hc1 rfl hi1).trans ?_
  refine (tt_fk rfl rfl).trans ?_
  refine tt_i2l.trans ?_
  refine (tt_f rfl).trans ?_
  refine tt_bl.trans ?_
  refine (tt_f rfl).trans ?_
  refine (tt_ls rfl rfl).trans ?_
  refine (tt_f rfl).trans ?_
  refine (tt_al rfl).trans ?_
  refine (tt_f rfl).trans ?_
  refine (tt_ll rfl).trans ?_
  refine (tt_f rfl).trans ?_
  refine (tt_il rfl).trans ?_
  refine (tt_f rfl).trans ?_
  refine tt_c.trans ?_
  refine (tt_f rfl).trans ?_
  refine tt_bi.trans ?_
  exact tt_cv (As := [.long (t0 ||| ((I c1 ((l2 + l7) - 1).toNatClampNeg)).toInt64), .int (l7 + 1)]) rfl hb.1 hb.2 rfl rfl rfl rfl rfl hq
theorem B53_91 {l2 : Int32} {l4 : Int32} {l5 : Int64} {l7 : Int32} {c1 n1 : Nat} (hc1 : zShL[c1]? = some (.inr (.inl (2, n1)))) : zd S 53 91 [some (.ref 56), some (.ref c1), some (.int l2), none, some (.int l4), some (.long l5), none, some (.int l7), none] [] I J k = zd S 53 24 [some (.ref 56), some (.ref c1), some (.int l2), none, some (.int l4), some (.long l5), none, some (.int (l7 + 1)), none] [] I J k := by
  refine (tt_f rfl).trans ?_
  refine (tt_in rfl rfl).trans ?_
  refine (tt_f rfl).trans ?_
  refine tt_go.trans ?_
  rfl
theorem B53_97 {l2 : Int32} {l4 : Int32} {l5 : Int64} {l7 : Int32} {c1 n1 : Nat} (hc1 : zShL[c1]? = some (.inr (.inl (2, n1)))) : zd S 53 97 [some (.ref 56), some (.ref c1), some (.int l2), none, some (.int l4), some (.long l5), none, some (.int l7), none] [] I J k = zd S 53 103 [some (.ref 56), some (.ref c1), some (.int l2), none, some (.int l4), some (.long l5), none, some (.int 0), some (.int 2)] [] I J k := by
  refine (tt_f rfl).trans ?_
  refine tt_c.trans ?_
  refine (tt_f rfl).trans ?_
  refine (tt_is rfl rfl).trans ?_
  refine (tt_f rfl).trans ?_
  refine tt_c.trans ?_
  refine (tt_f rfl).trans ?_
  refine (tt_is rfl rfl).trans ?_
  rfl
theorem B53_103 {o1 : Option Value} {o2 : Option Value} {l4 : Int32} {o5 : Option Value} {l7 : Int32} {l8 : Int32}  : zd S 53 103 [some (.ref 56), o1, o2, none, some (.int l4), o5, none, some (.int l7), some (.int l8)] [] I J k = if (l4 - 2) < l8 then zd S 53 137 [some (.ref 56), none, none, none, some (.int l4), none, none, some (.int l7), some (.int l8)] [] I J k else zd S 53 112 [some (.ref 56), none, none, none, some (.int l4), none, none, some (.int l7), some (.int l8)] [] I J k := by
  refine (tt_fk rfl rfl).trans ?_
  refine (tt_il rfl).trans ?_
  refine (tt_f rfl).trans ?_
  refine (tt_il rfl).trans ?_
  refine (tt_f rfl).trans ?_
  refine tt_c.trans ?_
  refine (tt_f rfl).trans ?_
  refine tt_bi.trans ?_
  refine (tt_f rfl).trans ?_
  exact tt_f2 (p := fun x y => y < x) inferInstance rfl
theorem B53_112 {l4 : Int32} {l7 : Int32} {l8 : Int32} (hi1 : zin (l8 + 1) 15 = true) : zd S 53 112 [some (.ref 56), none, none, none, some (.int l4), none, none, some (.int l7), some (.int l8)] [] I J k = zd S 53 103 [some (.ref 56), none, none, none, some (.int l4), none, none, some (.int (l7 ||| (((I 60 (l8 + 1).toNatClampNeg) &&& 1) <<< (l8 &&& 31)))), some (.int (l8 + 1))] [] I J k := by
  refine (tt_f rfl).trans ?_
  refine (tt_il rfl).trans ?_
  refine (tt_f rfl).trans ?_
  refine (tt_al rfl).trans ?_
  refine (tt_f rfl).trans ?_
  refine (tt_gr rfl rfl).trans ?_
  refine (tt_f rfl).trans ?_
  refine (tt_il rfl).trans ?_
  refine (tt_f rfl).trans ?_
  refine tt_c.trans ?_
  refine (tt_f rfl).trans ?_
  refine tt_bi.trans ?_
  refine (tt_f rfl).trans ?_
  refine (tt_ga rfl rfl hi1).trans ?_
  refine (tt_f rfl).trans ?_
  refine tt_c.trans ?_
  refine (tt_f rfl).trans ?_
  refine tt_bi.trans ?_
  refine (tt_f rfl).trans ?_
  refine (tt_il rfl).trans ?_
  refine (tt_f rfl).trans ?_
  refine tt_bi.trans ?_
  refine (tt_f rfl).trans ?_
  refine tt_bi.trans ?_
  refine (tt_f rfl).trans ?_
  refine (tt_is rfl rfl).trans ?_
  refine (tt_f rfl).trans ?_
  refine (tt_in rfl rfl).trans ?_
  refine (tt_f rfl).trans ?_
  refine tt_go.trans ?_
  rfl
theorem B53_137 {l4 : Int32} {l7 : Int32} {l8 : Int32}  : zd S 53 137 [some (.ref 56), none, none, none, some (.int l4), none, none, some (.int l7), some (.int l8)] [] I J k = some ((some (.int l7)), mk I J, k) := by
  refine (tt_f rfl).trans ?_
  refine (tt_il rfl).trans ?_
  exact tt_r1 rfl rfl
/-! 54: PatternBook.raiseValues -/
theorem B54_0 {l1 : Int64} {l3 : Int32}  : zd S 54 0 [some (.ref 56), some (.long l1), none, some (.int l3), none, none, none, none] [] I J k = zd S 54 3 [some (.ref 56), some (.long l1), none, some (.int l3), some (.int 0), none, none, none] [] I J k := by
  refine (tt_f rfl).trans ?_
  refine tt_c.trans ?_
  refine (tt_f rfl).trans ?_
  refine (tt_is rfl rfl).trans ?_
  rfl
theorem B54_3 {l1 : Int64} {l3 : Int32} {l4 : Int32}  : zd S 54 3 [some (.ref 56), some (.long l1), none, some (.int l3), some (.int l4), none, none, none] [] I J k = if (I 56 4) ≤ l4 then zd S 54 114 [some (.ref 56), some (.long l1), none, some (.int l3), some (.int l4), none, none, none] [] I J k else zd S 54 12 [some (.ref 56), some (.long l1), none, some (.int l3), some (.int l4), none, none, none] [] I J k := by
  refine (tt_fk rfl rfl).trans ?_
  refine (tt_il rfl).trans ?_
  refine (tt_f rfl).trans ?_
  refine (tt_al rfl).trans ?_
  refine (tt_f rfl).trans ?_
  refine (tt_gi rfl rfl).trans ?_
  refine (tt_f rfl).trans ?_
  exact tt_f2 (p := fun x y => y ≤ x) inferInstance rfl
theorem B54_12 {l1 : Int64} {l3 : Int32} {l4 : Int32} (hi1 : zin l4 20 = true) : zd S 54 12 [some (.ref 56), some (.long l1), none, some (.int l3), some (.int l4), none, none, none] [] I J k = if l3 < (I 59 l4.toNatClampNeg) then zd S 54 108 [some (.ref 56), some (.long l1), none, some (.int l3), some (.int l4), some (.int (I 59 l4.toNatClampNeg)), none, none] [] I J k else zd S 54 27 [some (.ref 56), some (.long l1), none, some (.int l3), some (.int l4), some (.int (I 59 l4.toNatClampNeg)), none, none] [] I J k := by
  refine (tt_f rfl).trans ?_
  refine (tt_al rfl).trans ?_
  refine (tt_f rfl).trans ?_
  refine (tt_gr rfl rfl).trans ?_
  refine (tt_f rfl).trans ?_
  refine (tt_il rfl).trans ?_
  refine (tt_f rfl).trans ?_
  refine (tt_ga rfl rfl hi1).trans ?_
  refine (tt_f rfl).trans ?_
  refine (tt_is rfl rfl).trans ?_
  refine (tt_f rfl).trans ?_
  refine (tt_il rfl).trans ?_
  refine (tt_f rfl).trans ?_
  refine (tt_il rfl).trans ?_
  refine (tt_f rfl).trans ?_
  exact tt_f2 (p := fun x y => y < x) inferInstance rfl
theorem B54_27 {l1 : Int64} {l3 : Int32} {l4 : Int32} {l5 : Int32} {v1 : Int64} {I2 : zI} {J3 : zJ} (hb : Nat.ble k.1 (mBu 54).1 = true ∧ Nat.ble k.2 (mBu 54).2 = true) (hq : zq S 58 [.int l5] I J (some (.long v1)) I2 J3) : zd S 54 27 [some (.ref 56), some (.long l1), none, some (.int l3), some (.int l4), some (.int l5), none, none] [] I J k = zd S 54 33 [some (.ref 56), some (.long l1), none, some (.int l3), some (.int l4), some (.int l5), none, none] [.long v1, .long l1] I2 J3 k := by
  refine (tt_f rfl).trans ?_
  refine (tt_ll rfl).trans ?_
  refine (tt_f rfl).trans ?_
  refine (tt_il rfl).trans ?_
  exact tt_cs (vs := [.int l5]) rfl hb.1 hb.2 rfl rfl rfl rfl hq
theorem B54_33 {l1 : Int64} {l3 : Int32} {l4 : Int32} {l5 : Int32} {t0 : Int64} {t1 : Int64} (hi1 : zin l4 20 = true) : zd S 54 33 [some (.ref 56), some (.long l1), none, some (.int l3), some (.int l4), some (.int l5), none, none] [.long t1, .long t0] I J k = if ¬ (lg_cmp (t0 &&& t1) (J 57 l4.toNatClampNeg)) = 0 then zd S 54 108 [some (.ref 56), some (.long l1), none, some (.int l3), some (.int l4), some (.int l5), none, none] [] I J k else zd S 54 45 [some (.ref 56), some (.long l1), none, some (.int l3), some (.int l4), some (.int l5), none, none] [] I J k := by
  refine (tt_f rfl).trans ?_
  refine tt_bl.trans ?_
  refine (tt_f rfl).trans ?_
  refine (tt_al rfl).trans ?_
  refine (tt_f rfl).trans ?_
  refine (tt_gr rfl rfl).trans ?_
  refine (tt_f rfl).trans ?_
  refine (tt_il rfl).trans ?_
  refine (tt_f rfl).trans ?_
  refine (tt_gl rfl hi1).trans ?_
  refine (tt_f rfl).trans ?_
  refine tt_cl.trans ?_
  refine (tt_f rfl).trans ?_
  exact tt_f1 (p := fun x => ¬ x = 0) inferInstance rfl
theorem B54_45 {l1 : Int64} {l3 : Int32} {l4 : Int32} {l5 : Int32}  : zd S 54 45 [some (.ref 56), some (.long l1), none, some (.int l3), some (.int l4), some (.int l5), none, none] [] I J k = zd S 54 48 [some (.ref 56), some (.long l1), none, some (.int l3), some (.int l4), some (.int l5), some (.int 0), none] [] I J k := by
  refine (tt_f rfl).trans ?_
  refine tt_c.trans ?_
  refine (tt_f rfl).trans ?_
  refine (tt_is rfl rfl).trans ?_
  rfl
theorem B54_48 {l1 : Int64} {l3 : Int32} {l4 : Int32} {l5 : Int32} {l6 : Int32} {o7 : Option Value}  : zd S 54 48 [some (.ref 56), some (.long l1), none, some (.int l3), some (.int l4), some (.int l5), some (.int l6), o7] [] I J k = if l5 < l6 then zd S 54 108 [some (.ref 56), some (.long l1), none, some (.int l3), some (.int l4), some (.int l5), some (.int l6), none] [] I J k else zd S 54 55 [some (.ref 56), some (.long l1), none, some (.int l3), some (.int l4), some (.int l5), some (.int l6), none] [] I J k := by
  refine (tt_fk rfl rfl).trans ?_
  refine (tt_il rfl).trans ?_
  refine (tt_f rfl).trans ?_
  refine (tt_il rfl).trans ?_
  refine (tt_f rfl).trans ?_
  exact tt_f2 (p := fun x y => y < x) inferInstance rfl
theorem B54_55 {l1 : Int64} {l3 : Int32} {l4 : Int32} {l5 : Int32} {l6 : Int32} {v2 : Int32} {I3 : zI} {J4 : zJ} (hb : Nat.ble k.1 (mBu 54).1 = true ∧ Nat.ble k.2 (mBu 54).2 = true) (hi1 : zin l4 20 = true) (hq : zq S 21 [.long (J 58 l4.toNatClampNeg), .int (l5 + 1), .int l6] I J (some (.int v2)) I3 J4) : zd S 54 55 [some (.ref 56), some (.long l1), none, some (.int l3), some (.int l4), some (.int l5), some (.int l6), none] [] I J k = zd S 54 71 [some (.ref 56), some (.long l1), none, some (.int l3), some (.int l4), some (.int l5), some (.int l6), none] [.int v2] I3 J4 k := by
  refine (tt_f rfl).trans ?_
  refine (tt_al rfl).trans ?_
  refine (tt_f rfl).trans ?_
  refine (tt_gr rfl rfl).trans ?_
  refine (tt_f rfl).trans ?_
  refine (tt_il rfl).trans ?_
  refine (tt_f rfl).trans ?_
  refine (tt_gl rfl hi1).trans ?_
  refine (tt_f rfl).trans ?_
  refine (tt_il rfl).trans ?_
  refine (tt_f rfl).trans ?_
  refine tt_c.trans ?_
  refine (tt_f rfl).trans ?_
  refine tt_bi.trans ?_
  refine (tt_f rfl).trans ?_
  refine (tt_il rfl).trans ?_
  exact tt_cs (vs := [.long (J 58 l4.toNatClampNeg), .int (l5 + 1), .int l6]) rfl hb.1 hb.2 rfl rfl rfl rfl hq
theorem B54_71 {l1 : Int64} {l3 : Int32} {l4 : Int32} {l5 : Int32} {l6 : Int32} {t0 : Int32} (hb : Nat.ble k.1 (mBu 54).1 = true ∧ Nat.ble k.2 (mBu 54).2 = true) (hi1 : zin ((l3 - l5) + l6) 15 = true) (hi2 : zin ((l3 - l5) + l6) 15 = true) : zd S 54 71 [some (.ref 56), some (.long l1), none, some (.int l3), some (.int l4), some (.int l5), some (.int l6), none] [.int t0] I J k = zd S 54 102 [some (.ref 56), some (.long l1), none, some (.int l3), some (.int l4), some (.int l5), some (.int l6), some (.int t0)] [] (u2 I 60 ((l3 - l5) + l6).toNatClampNeg (if (I 60 ((l3 - l5) + l6).toNatClampNeg) < t0 then t0 else (I 60 ((l3 - l5) + l6).toNatClampNeg))) J k := by
  refine (tt_f rfl).trans ?_
  refine (tt_is rfl rfl).trans ?_
  refine (tt_f rfl).trans ?_
  refine (tt_al rfl).trans ?_
  refine (tt_f rfl).trans ?_
  refine (tt_gr rfl rfl).trans ?_
  refine (tt_f rfl).trans ?_
  refine (tt_il rfl).trans ?_
  refine (tt_f rfl).trans ?_
  refine (tt_il rfl).trans ?_
  refine (tt_f rfl).trans ?_
  refine tt_bi.trans ?_
  refine (tt_f rfl).trans ?_
  refine (tt_il rfl).trans ?_
  refine (tt_f rfl).trans ?_
  refine tt_bi.trans ?_
  refine (tt_f rfl).trans ?_
  refine (tt_al rfl).trans ?_
  refine (tt_f rfl).trans ?_
  refine (tt_gr rfl rfl).trans ?_
  refine (tt_f rfl).trans ?_
  refine (tt_il rfl).trans ?_
  refine (tt_f rfl).trans ?_
  refine (tt_il rfl).trans ?_
  refine (tt_f rfl).trans ?_
  refine tt_bi.trans ?_
  refine (tt_f rfl).trans ?_
  refine (tt_il rfl).trans ?_
  refine (tt_f rfl).trans ?_
  refine tt_bi.trans ?_
  refine (tt_f rfl).trans ?_
  refine (tt_ga rfl rfl hi1).trans ?_
  refine (tt_f rfl).trans ?_
  refine (tt_il rfl).trans ?_
  refine (tt_f rfl).trans ?_
  refine (tt_mm rfl hb.1 hb.2).trans ?_
  refine (tt_f rfl).trans ?_
  exact tt_pa rfl rfl hi2
theorem B54_102 {l1 : Int64} {l3 : Int32} {l4 : Int32} {l5 : Int32} {l6 : Int32} {l7 : Int32}  : zd S 54 102 [some (.ref 56), some (.long l1), none, some (.int l3), some (.int l4), some (.int l5), some (.int l6), some (.int l7)] [] I J k = zd S 54 48 [some (.ref 56), some (.long l1), none, some (.int l3), some (.int l4), some (.int l5), some (.int (l6 + 1)), some (.int l7)] [] I J k := by
  refine (tt_f rfl).trans ?_
  refine (tt_in rfl rfl).trans ?_
  refine (tt_f rfl).trans ?_
  refine tt_go.trans ?_
  rfl
theorem B54_108 {l1 : Int64} {l3 : Int32} {l4 : Int32} {l5 : Int32} {o6 : Option Value}  : zd S 54 108 [some (.ref 56), some (.long l1), none, some (.int l3), some (.int l4), some (.int l5), o6, none] [] I J k = zd S 54 3 [some (.ref 56), some (.long l1), none, some (.int l3), some (.int (l4 + 1)), none, none, none] [] I J k := by
  refine (tt_fk rfl rfl).trans ?_
  refine (tt_in rfl rfl).trans ?_
  refine (tt_f rfl).trans ?_
  refine tt_go.trans ?_
  rfl
theorem B54_114 {l1 : Int64} {l3 : Int32} {l4 : Int32}  : zd S 54 114 [some (.ref 56), some (.long l1), none, some (.int l3), some (.int l4), none, none, none] [] I J k = some (none, mk I J, k) := by
  exact tt_rv rfl
/-! 55: PatternBook.placeOf -/
theorem B55_0 {l1 : Int64}  : zd S 55 0 [some (.ref 56), some (.long l1), none, none] [] I J k = zd S 55 2 [some (.ref 56), some (.long l1), none, some (.int 0)] [] I J k := by
  refine (tt_f rfl).trans ?_
  refine tt_c.trans ?_
  refine (tt_f rfl).trans ?_
  refine (tt_is rfl rfl).trans ?_
  rfl
theorem B55_2 {l1 : Int64} {l3 : Int32}  : zd S 55 2 [some (.ref 56), some (.long l1), none, some (.int l3)] [] I J k = if (I 56 4) ≤ l3 then zd S 55 29 [some (.ref 56), some (.long l1), none, some (.int l3)] [] I J k else zd S 55 10 [some (.ref 56), some (.long l1), none, some (.int l3)] [] I J k := by
  refine (tt_fk rfl rfl).trans ?_
  refine (tt_il rfl).trans ?_
  refine (tt_f rfl).trans ?_
  refine (tt_al rfl).trans ?_
  refine (tt_f rfl).trans ?_
  refine (tt_gi rfl rfl).trans ?_
  refine (tt_f rfl).trans ?_
  exact tt_f2 (p := fun x y => y ≤ x) inferInstance rfl
theorem B55_10 {l1 : Int64} {l3 : Int32} (hi1 : zin l3 20 = true) : zd S 55 10 [some (.ref 56), some (.long l1), none, some (.int l3)] [] I J k = if ¬ (lg_cmp (J 57 l3.toNatClampNeg) l1) = 0 then zd S 55 23 [some (.ref 56), some (.long l1), none, some (.int l3)] [] I J k else zd S 55 21 [some (.ref 56), some (.long l1), none, some (.int l3)] [] I J k := by
  refine (tt_f rfl).trans ?_
  refine (tt_al rfl).trans ?_
  refine (tt_f rfl).trans ?_
  refine (tt_gr rfl rfl).trans ?_
  refine (tt_f rfl).trans ?_
  refine (tt_il rfl).trans ?_
  refine (tt_f rfl).trans ?_
  refine (tt_gl rfl hi1).trans ?_
  refine (tt_f rfl).trans ?_
  refine (tt_ll rfl).trans ?_
  refine (tt_f rfl).trans ?_
  refine tt_cl.trans ?_
  refine (tt_f rfl).trans ?_
  exact tt_f1 (p := fun x => ¬ x = 0) inferInstance rfl
theorem B55_21 {l1 : Int64} {l3 : Int32}  : zd S 55 21 [some (.ref 56), some (.long l1), none, some (.int l3)] [] I J k = some ((some (.int l3)), mk I J, k) := by
  refine (tt_f rfl).trans ?_
  refine (tt_il rfl).trans ?_
  exact tt_r1 rfl rfl
theorem B55_23 {l1 : Int64} {l3 : Int32}  : zd S 55 23 [some (.ref 56), some (.long l1), none, some (.int l3)] [] I J k = zd S 55 2 [some (.ref 56), some (.long l1), none, some (.int (l3 + 1))] [] I J k := by
  refine (tt_f rfl).trans ?_
  refine (tt_in rfl rfl).trans ?_
  refine (tt_f rfl).trans ?_
  refine tt_go.trans ?_
  rfl
theorem B55_29 {l1 : Int64} {l3 : Int32}  : zd S 55 29 [some (.ref 56), some (.long l1), none, some (.int l3)] [] I J k = some ((some (.int (I 56 4))), mk I J, k) := by
  refine (tt_f rfl).trans ?_
  refine (tt_al rfl).trans ?_
  refine (tt_f rfl).trans ?_
  refine (tt_gi rfl rfl).trans ?_
  exact tt_r1 rfl rfl
/-! 56: PatternBook.areSigns -/
theorem B56_0 {l0 : Int64} {l2 : Int32}  : zd S 56 0 [some (.long l0), none, some (.int l2), none, none, none, none] [] I J k = if l2 < 1 then zd S 56 11 [some (.long l0), none, some (.int l2), none, none, none, none] [] I J k else zd S 56 5 [some (.long l0), none, some (.int l2), none, none, none, none] [] I J k := by
  refine (tt_f rfl).trans ?_
  refine (tt_il rfl).trans ?_
  refine (tt_f rfl).trans ?_
  refine tt_c.trans ?_
  refine (tt_f rfl).trans ?_
  exact tt_f2 (p := fun x y => x < y) inferInstance rfl
theorem B56_5 {l0 : Int64} {l2 : Int32}  : zd S 56 5 [some (.long l0), none, some (.int l2), none, none, none, none] [] I J k = if l2 ≤ 6 then zd S 56 13 [some (.long l0), none, some (.int l2), none, none, none, none] [] I J k else zd S 56 11 [some (.long l0), none, some (.int l2), none, none, none, none] [] I J k := by
  refine (tt_f rfl).trans ?_
  refine (tt_il rfl).trans ?_
  refine (tt_f rfl).trans ?_
  refine tt_c.trans ?_
  refine (tt_f rfl).trans ?_
  exact tt_f2 (p := fun x y => x ≤ y) inferInstance rfl
theorem B56_11 {l0 : Int64} {l2 : Int32} (hz : zrt 2 (.int 0) = true) : zd S 56 11 [some (.long l0), none, some (.int l2), none, none, none, none] [] I J k = some ((some (.int 0)), mk I J, k) := by
  refine (tt_fk rfl rfl).trans ?_
  refine tt_c.trans ?_
  exact tt_r1 rfl hz
theorem B56_13 {l0 : Int64} {l2 : Int32}  : zd S 56 13 [some (.long l0), none, some (.int l2), none, none, none, none] [] I J k = zd S 56 18 [some (.long l0), none, some (.int l2), some (.int 0), some (.int 0), none, none] [] I J k := by
  refine (tt_f rfl).trans ?_
  refine tt_c.trans ?_
  refine (tt_f rfl).trans ?_
  refine (tt_is rfl rfl).trans ?_
  refine (tt_f rfl).trans ?_
  refine tt_c.trans ?_
  refine (tt_f rfl).trans ?_
  refine (tt_is rfl rfl).trans ?_
  rfl
theorem B56_18 {l0 : Int64} {l2 : Int32} {l3 : Int32} {l4 : Int32}  : zd S 56 18 [some (.long l0), none, some (.int l2), some (.int l3), some (.int l4), none, none] [] I J k = if l2 ≤ l4 then zd S 56 86 [some (.long l0), none, some (.int l2), some (.int l3), some (.int l4), none, none] [] I J k else zd S 56 24 [some (.long l0), none, some (.int l2), some (.int l3), some (.int l4), none, none] [] I J k := by
  refine (tt_fk rfl rfl).trans ?_
  refine (tt_il rfl).trans ?_
  refine (tt_f rfl).trans ?_
  refine (tt_il rfl).trans ?_
  refine (tt_f rfl).trans ?_
  exact tt_f2 (p := fun x y => y ≤ x) inferInstance rfl
theorem B56_24 {l0 : Int64} {l2 : Int32} {l3 : Int32} {l4 : Int32} {v1 : Int32} {I2 : zI} {J3 : zJ} (hb : Nat.ble k.1 (mBu 56).1 = true ∧ Nat.ble k.2 (mBu 56).2 = true) (hq : zq S 21 [.long l0, .int l2, .int l4] I J (some (.int v1)) I2 J3) : zd S 56 24 [some (.long l0), none, some (.int l2), some (.int l3), some (.int l4), none, none] [] I J k = zd S 56 31 [some (.long l0), none, some (.int l2), some (.int l3), some (.int l4), none, none] [.int v1] I2 J3 k := by
  refine (tt_f rfl).trans ?_
  refine (tt_ll rfl).trans ?_
  refine (tt_f rfl).trans ?_
  refine (tt_il rfl).trans ?_
  refine (tt_f rfl).trans ?_
  refine (tt_il rfl).trans ?_
  exact tt_cs (vs := [.long l0, .int l2, .int l4]) rfl hb.1 hb.2 rfl rfl rfl rfl hq
theorem B56_31 {l0 : Int64} {l2 : Int32} {l3 : Int32} {l4 : Int32} {t0 : Int32}  : zd S 56 31 [some (.long l0), none, some (.int l2), some (.int l3), some (.int l4), none, none] [.int t0] I J k = if l4 = 0 then zd S 56 46 [some (.long l0), none, some (.int l2), some (.int l3), some (.int l4), some (.int t0), none] [] I J k else zd S 56 38 [some (.long l0), none, some (.int l2), some (.int l3), some (.int l4), some (.int t0), none] [] I J k := by
  refine (tt_f rfl).trans ?_
  refine (tt_is rfl rfl).trans ?_
  refine (tt_f rfl).trans ?_
  refine (tt_il rfl).trans ?_
  refine (tt_f rfl).trans ?_
  exact tt_f1 (p := fun x => x = 0) inferInstance rfl
theorem B56_38 {l0 : Int64} {l2 : Int32} {l3 : Int32} {l4 : Int32} {l5 : Int32}  : zd S 56 38 [some (.long l0), none, some (.int l2), some (.int l3), some (.int l4), some (.int l5), none] [] I J k = if ¬ l4 = (l2 - 1) then zd S 56 50 [some (.long l0), none, some (.int l2), some (.int l3), some (.int l4), some (.int l5), none] [] I J k else zd S 56 46 [some (.long l0), none, some (.int l2), some (.int l3), some (.int l4), some (.int l5), none] [] I J k := by
  refine (tt_f rfl).trans ?_
  refine (tt_il rfl).trans ?_
  refine (tt_f rfl).trans ?_
  refine (tt_il rfl).trans ?_
  refine (tt_f rfl).trans ?_
  refine tt_c.trans ?_
  refine (tt_f rfl).trans ?_
  refine tt_bi.trans ?_
  refine (tt_f rfl).trans ?_
  exact tt_f2 (p := fun x y => ¬ x = y) inferInstance rfl
theorem B56_46 {l0 : Int64} {l2 : Int32} {l3 : Int32} {l4 : Int32} {l5 : Int32} {v1 : Int32} {I2 : zI} {J3 : zJ} (hb : Nat.ble k.1 (mBu 56).1 = true ∧ Nat.ble k.2 (mBu 56).2 = true) (hq : zq S 19 [.int l5] I J (some (.int v1)) I2 J3) : zd S 56 46 [some (.long l0), none, some (.int l2), some (.int l3), some (.int l4), some (.int l5), none] [] I J k = zd S 56 58 [some (.long l0), none, some (.int l2), some (.int l3), some (.int l4), some (.int l5), some (.int 1)] [.int v1] I2 J3 k := by
  refine (tt_fk rfl rfl).trans ?_
  refine tt_c.trans ?_
  refine (tt_f rfl).trans ?_
  refine tt_go.trans ?_
  refine (tt_fk rfl rfl).trans ?_
  refine (tt_is rfl rfl).trans ?_
  refine (tt_f rfl).trans ?_
  refine (tt_il rfl).trans ?_
  exact tt_cs (vs := [.int l5]) rfl hb.1 hb.2 rfl rfl rfl rfl hq
theorem B56_50 {l0 : Int64} {l2 : Int32} {l3 : Int32} {l4 : Int32} {l5 : Int32} {v1 : Int32} {I2 : zI} {J3 : zJ} (hb : Nat.ble k.1 (mBu 56).1 = true ∧ Nat.ble k.2 (mBu 56).2 = true) (hq : zq S 19 [.int l5] I J (some (.int v1)) I2 J3) : zd S 56 50 [some (.long l0), none, some (.int l2), some (.int l3), some (.int l4), some (.int l5), none] [] I J k = zd S 56 58 [some (.long l0), none, some (.int l2), some (.int l3), some (.int l4), some (.int l5), some (.int 0)] [.int v1] I2 J3 k := by
  refine (tt_f rfl).trans ?_
  refine tt_c.trans ?_
  refine (tt_fk rfl rfl).trans ?_
  refine (tt_is rfl rfl).trans ?_
  refine (tt_f rfl).trans ?_
  refine (tt_il rfl).trans ?_
  exact tt_cs (vs := [.int l5]) rfl hb.1 hb.2 rfl rfl rfl rfl hq
theorem B56_58 {l0 : Int64} {l2 : Int32} {l3 : Int32} {l4 : Int32} {l5 : Int32} {l6 : Int32} {t0 : Int32}  : zd S 56 58 [some (.long l0), none, some (.int l2), some (.int l3), some (.int l4), some (.int l5), some (.int l6)] [.int t0] I J k = if t0 = 0 then zd S 56 66 [some (.long l0), none, some (.int l2), some (.int l3), some (.int l4), some (.int l5), some (.int l6)] [] I J k else zd S 56 61 [some (.long l0), none, some (.int l2), some (.int l3), some (.int l4), some (.int l5), some (.int l6)] [] I J k := by
  refine (tt_f rfl).trans ?_
  exact tt_f1 (p := fun x => x = 0) inferInstance rfl
theorem B56_61 {l0 : Int64} {l2 : Int32} {l3 : Int32} {l4 : Int32} {l5 : Int32} {l6 : Int32}  : zd S 56 61 [some (.long l0), none, some (.int l2), some (.int l3), some (.int l4), some (.int l5), some (.int l6)] [] I J k = zd S 56 18 [some (.long l0), none, some (.int l2), some (.int 1), some (.int (l4 + 1)), none, none] [] I J k := by
  refine (tt_f rfl).trans ?_
  refine tt_c.trans ?_
  refine (tt_f rfl).trans ?_
  refine (tt_is rfl rfl).trans ?_
  refine (tt_f rfl).trans ?_
  refine tt_go.trans ?_
  refine (tt_fk rfl rfl).trans ?_
  refine (tt_in rfl rfl).trans ?_
  refine (tt_f rfl).trans ?_
  refine tt_go.trans ?_
  rfl
theorem B56_66 {l0 : Int64} {l2 : Int32} {l3 : Int32} {l4 : Int32} {l5 : Int32} {l6 : Int32}  : zd S 56 66 [some (.long l0), none, some (.int l2), some (.int l3), some (.int l4), some (.int l5), some (.int l6)] [] I J k = if ¬ l5 = 46 then zd S 56 78 [some (.long l0), none, some (.int l2), some (.int l3), some (.int l4), some (.int l5), some (.int l6)] [] I J k else zd S 56 73 [some (.long l0), none, some (.int l2), some (.int l3), some (.int l4), some (.int l5), some (.int l6)] [] I J k := by
  refine (tt_f rfl).trans ?_
  refine (tt_il rfl).trans ?_
  refine (tt_f rfl).trans ?_
  refine tt_c.trans ?_
  refine (tt_f rfl).trans ?_
  exact tt_f2 (p := fun x y => ¬ x = y) inferInstance rfl
theorem B56_73 {l0 : Int64} {l2 : Int32} {l3 : Int32} {l4 : Int32} {l5 : Int32} {l6 : Int32}  : zd S 56 73 [some (.long l0), none, some (.int l2), some (.int l3), some (.int l4), some (.int l5), some (.int l6)] [] I J k = if ¬ l6 = 0 then zd S 56 80 [some (.long l0), none, some (.int l2), some (.int l3), some (.int l4), some (.int l5), some (.int l6)] [] I J k else zd S 56 78 [some (.long l0), none, some (.int l2), some (.int l3), some (.int l4), some (.int l5), some (.int l6)] [] I J k := by
  refine (tt_f rfl).trans ?_
  refine (tt_il rfl).trans ?_
  refine (tt_f rfl).trans ?_
  exact tt_f1 (p := fun x => ¬ x = 0) inferInstance rfl
theorem B56_78 {l0 : Int64} {l2 : Int32} {l3 : Int32} {l4 : Int32} {l5 : Int32} {l6 : Int32} (hz : zrt 2 (.int 0) = true) : zd S 56 78 [some (.long l0), none, some (.int l2), some (.int l3), some (.int l4), some (.int l5), some (.int l6)] [] I J k = some ((some (.int 0)), mk I J, k) := by
  refine (tt_fk rfl rfl).trans ?_
  refine tt_c.trans ?_
  exact tt_r1 rfl hz
theorem B56_80 {l0 : Int64} {l2 : Int32} {l3 : Int32} {l4 : Int32} {l5 : Int32} {l6 : Int32}  : zd S 56 80 [some (.long l0), none, some (.int l2), some (.int l3), some (.int l4), some (.int l5), some (.int l6)] [] I J k = zd S 56 18 [some (.long l0), none, some (.int l2), some (.int l3), some (.int (l4 + 1)), none, none] [] I J k := by
  refine (tt_fk rfl rfl).trans ?_
  refine (tt_in rfl rfl).trans ?_
  refine (tt_f rfl).trans ?_
  refine tt_go.trans ?_
  rfl
theorem B56_86 {l0 : Int64} {l2 : Int32} {l3 : Int32} {l4 : Int32} (hz : zrt 2 (.int l3) = true) : zd S 56 86 [some (.long l0), none, some (.int l2), some (.int l3), some (.int l4), none, none] [] I J k = some ((some (.int l3)), mk I J, k) := by
  refine (tt_f rfl).trans ?_
  refine (tt_il rfl).trans ?_
  exact tt_r1 rfl hz
/-! 57: PatternBook.areValues -/
theorem B57_0 {l0 : Int64} {l2 : Int32}  : zd S 57 0 [some (.long l0), none, some (.int l2), none] [] I J k = zd S 57 2 [some (.long l0), none, some (.int l2), some (.int 0)] [] I J k := by
  refine (tt_f rfl).trans ?_
  refine tt_c.trans ?_
  refine (tt_f rfl).trans ?_
  refine (tt_is rfl rfl).trans ?_
  rfl
theorem B57_2 {l0 : Int64} {l2 : Int32} {l3 : Int32}  : zd S 57 2 [some (.long l0), none, some (.int l2), some (.int l3)] [] I J k = if l2 ≤ l3 then zd S 57 26 [some (.long l0), none, some (.int l2), some (.int l3)] [] I J k else zd S 57 7 [some (.long l0), none, some (.int l2), some (.int l3)] [] I J k := by
  refine (tt_fk rfl rfl).trans ?_
  refine (tt_il rfl).trans ?_
  refine (tt_f rfl).trans ?_
  refine (tt_il rfl).trans ?_
  refine (tt_f rfl).trans ?_
  exact tt_f2 (p := fun x y => y ≤ x) inferInstance rfl
theorem B57_7 {l0 : Int64} {l2 : Int32} {l3 : Int32} {v1 : Int32} {I2 : zI} {J3 : zJ} (hb : Nat.ble k.1 (mBu 57).1 = true ∧ Nat.ble k.2 (mBu 57).2 = true) (hq : zq S 21 [.long l0, .int l2, .int l3] I J (some (.int v1)) I2 J3) : zd S 57 7 [some (.long l0), none, some (.int l2), some (.int l3)] [] I J k = zd S 57 13 [some (.long l0), none, some (.int l2), some (.int l3)] [.int v1] I2 J3 k := by
  refine (tt_f rfl).trans ?_
  refine (tt_ll rfl).trans ?_
  refine (tt_f rfl).trans ?_
  refine (tt_il rfl).trans ?_
  refine (tt_f rfl).trans ?_
  refine (tt_il rfl).trans ?_
  exact tt_cs (vs := [.long l0, .int l2, .int l3]) rfl hb.1 hb.2 rfl rfl rfl rfl hq
theorem B57_13 {l0 : Int64} {l2 : Int32} {l3 : Int32} {t0 : Int32}  : zd S 57 13 [some (.long l0), none, some (.int l2), some (.int l3)] [.int t0] I J k = if t0 ≤ 9 then zd S 57 20 [some (.long l0), none, some (.int l2), some (.int l3)] [] I J k else zd S 57 18 [some (.long l0), none, some (.int l2), some (.int l3)] [] I J k := by
  refine (tt_f rfl).trans ?_
  refine tt_c.trans ?_
  refine (tt_f rfl).trans ?_
  exact tt_f2 (p := fun x y => x ≤ y) inferInstance rfl
theorem B57_18 {l0 : Int64} {l2 : Int32} {l3 : Int32} (hz : zrt 2 (.int 0) = true) : zd S 57 18 [some (.long l0), none, some (.int l2), some (.int l3)] [] I J k = some ((some (.int 0)), mk I J, k) := by
  refine (tt_f rfl).trans ?_
  refine tt_c.trans ?_
  exact tt_r1 rfl hz
theorem B57_20 {l0 : Int64} {l2 : Int32} {l3 : Int32}  : zd S 57 20 [some (.long l0), none, some (.int l2), some (.int l3)] [] I J k = zd S 57 2 [some (.long l0), none, some (.int l2), some (.int (l3 + 1))] [] I J k := by
  refine (tt_f rfl).trans ?_
  refine (tt_in rfl rfl).trans ?_
  refine (tt_f rfl).trans ?_
  refine tt_go.trans ?_
  rfl
theorem B57_26 {l0 : Int64} {l2 : Int32} {l3 : Int32} (hz : zrt 2 (.int 1) = true) : zd S 57 26 [some (.long l0), none, some (.int l2), some (.int l3)] [] I J k = some ((some (.int 1)), mk I J, k) := by
  refine (tt_f rfl).trans ?_
  refine tt_c.trans ?_
  exact tt_r1 rfl hz
/-! 58: PatternBook.lowBytes -/
theorem B58_0 {l0 : Int32}  : zd S 58 0 [some (.int l0)] [] I J k = some ((some (.long ((1 <<< (((8 * l0) : Int32).toInt64 &&& 63)) - 1))), mk I J, k) := by
  refine (tt_f rfl).trans ?_
  refine tt_c.trans ?_
  refine (tt_f rfl).trans ?_
  refine tt_c.trans ?_
  refine (tt_f rfl).trans ?_
  refine (tt_il rfl).trans ?_
  refine (tt_f rfl).trans ?_
  refine tt_bi.trans ?_
  refine (tt_f rfl).trans ?_
  refine tt_sl.trans ?_
  refine (tt_f rfl).trans ?_
  refine tt_c.trans ?_
  refine (tt_f rfl).trans ?_
  refine tt_bl.trans ?_
  exact tt_r1 rfl rfl
/-! 60: Planner.placeStory -/
theorem B60_0 {s1 : Nat} (hs1 : s1 < 4) : zd S 60 0 [some (.ref 65), some (.ref (7 + 12 * s1))] [] I J k = if ¬ (I (7 + 12 * s1) 14) = 1 then zd S 60 9 [some (.ref 65), some (.ref (7 + 12 * s1))] [] I J k else zd S 60 8 [some (.ref 65), some (.ref (7 + 12 * s1))] [] I J k := by
  refine (tt_f rfl).trans ?_
  refine (tt_al rfl).trans ?_
  refine (tt_f rfl).trans ?_
  refine (tt_gi (shS hs1) rfl).trans ?_
  refine (tt_f rfl).trans ?_
  refine tt_c.trans ?_
  refine (tt_f rfl).trans ?_
  exact tt_f2 (p := fun x y => ¬ x = y) inferInstance rfl
theorem B60_8 {s1 : Nat} (hs1 : s1 < 4) : zd S 60 8 [some (.ref 65), some (.ref (7 + 12 * s1))] [] I J k = some (none, mk I J, k) := by
  exact tt_rv rfl
theorem B60_9 {s1 : Nat} (hs1 : s1 < 4) : zd S 60 9 [some (.ref 65), some (.ref (7 + 12 * s1))] [] I J k = if (I (7 + 12 * s1) 15) = 0 then zd S 60 25 [some (.ref 65), some (.ref (7 + 12 * s1))] [] I J k else zd S 60 16 [some (.ref 65), some (.ref (7 + 12 * s1))] [] I J k := by
  refine (tt_f rfl).trans ?_
  refine (tt_al rfl).trans ?_
  refine (tt_f rfl).trans ?_
  refine (tt_gi (shS hs1) rfl).trans ?_
  refine (tt_f rfl).trans ?_
  exact tt_f1 (p := fun x => x = 0) inferInstance rfl
theorem B60_16 {s1 : Nat} (hs1 : s1 < 4) : zd S 60 16 [some (.ref 65), some (.ref (7 + 12 * s1))] [] I J k = if (I (7 + 12 * s1) 15) ≤ 40 then zd S 60 33 [some (.ref 65), some (.ref (7 + 12 * s1))] [] I J k else zd S 60 25 [some (.ref 65), some (.ref (7 + 12 * s1))] [] I J k := by
  refine (tt_f rfl).trans ?_
  refine (tt_al rfl).trans ?_
  refine (tt_f rfl).trans ?_
  refine (tt_gi (shS hs1) rfl).trans ?_
  refine (tt_f rfl).trans ?_
  refine tt_c.trans ?_
  refine (tt_f rfl).trans ?_
  exact tt_f2 (p := fun x y => x ≤ y) inferInstance rfl
theorem B60_25 {s1 : Nat} (hs1 : s1 < 4) : zd S 60 25 [some (.ref 65), some (.ref (7 + 12 * s1))] [] I J k = zd S 60 30 [none, some (.ref (7 + 12 * s1))] [] (u2 I (7 + 12 * s1) 14 2) J k := by
  refine (tt_fk rfl rfl).trans ?_
  refine (tt_al rfl).trans ?_
  refine (tt_f rfl).trans ?_
  refine tt_c.trans ?_
  refine (tt_f rfl).trans ?_
  exact tt_pi (shS hs1) rfl rfl
theorem B60_30 {s1 : Nat} (hs1 : s1 < 4) : zd S 60 30 [none, some (.ref (7 + 12 * s1))] [] I J k = some (none, mk I J, k) := by
  refine (tt_f rfl).trans ?_
  refine tt_go.trans ?_
  exact tt_rv rfl
theorem B60_33 {s1 : Nat} {v1 : Int32} {I2 : zI} {J3 : zJ} (hb : Nat.ble k.1 (mBu 60).1 = true ∧ Nat.ble k.2 (mBu 60).2 = true) (hs1 : s1 < 4) (hq : zq S 61 [.ref 65, .ref (7 + 12 * s1), .int 0, .int 0] I J (some (.int v1)) I2 J3) : zd S 60 33 [some (.ref 65), some (.ref (7 + 12 * s1))] [] I J k = zd S 60 40 [some (.ref 65), some (.ref (7 + 12 * s1))] [.int v1] I2 J3 k := by
  refine (tt_f rfl).trans ?_
  refine (tt_al rfl).trans ?_
  refine (tt_f rfl).trans ?_
  refine (tt_al rfl).trans ?_
  refine (tt_f rfl).trans ?_
  refine tt_c.trans ?_
  refine (tt_f rfl).trans ?_
  refine tt_c.trans ?_
  exact tt_cv (As := [.ref (7 + 12 * s1), .int 0, .int 0]) rfl hb.1 hb.2 rfl rfl rfl rfl rfl hq
theorem B60_40 {t0 : Int32} {s1 : Nat} (hs1 : s1 < 4) : zd S 60 40 [some (.ref 65), some (.ref (7 + 12 * s1))] [.int t0] I J k = if t0 = 0 then zd S 60 57 [some (.ref 65), some (.ref (7 + 12 * s1))] [] I J k else zd S 60 43 [some (.ref 65), some (.ref (7 + 12 * s1))] [] I J k := by
  refine (tt_f rfl).trans ?_
  exact tt_f1 (p := fun x => x = 0) inferInstance rfl
theorem B60_43 {s1 : Nat} (hs1 : s1 < 4) : zd S 60 43 [some (.ref 65), some (.ref (7 + 12 * s1))] [] I J k = zd S 60 48 [some (.ref 65), some (.ref (7 + 12 * s1))] [] (u2 I (7 + 12 * s1) 16 1) J k := by
  refine (tt_f rfl).trans ?_
  refine (tt_al rfl).trans ?_
  refine (tt_f rfl).trans ?_
  refine tt_c.trans ?_
  refine (tt_f rfl).trans ?_
  exact tt_pi (shS hs1) rfl rfl
theorem B60_48 {s1 : Nat} {I1 : zI} {J2 : zJ} (hb : Nat.ble k.1 (mBu 60).1 = true ∧ Nat.ble k.2 (mBu 60).2 = true) (hs1 : s1 < 4) (hq : zq S 66 [.ref 65, .ref (7 + 12 * s1), .int 0] I J none I1 J2) : zd S 60 48 [some (.ref 65), some (.ref (7 + 12 * s1))] [] I J k = zd S 60 54 [some (.ref 65), some (.ref (7 + 12 * s1))] [] I1 J2 k := by
  refine (tt_f rfl).trans ?_
  refine (tt_al rfl).trans ?_
  refine (tt_f rfl).trans ?_
  refine (tt_al rfl).trans ?_
  refine (tt_f rfl).trans ?_
  refine tt_c.trans ?_
  exact tt_cv (As := [.ref (7 + 12 * s1), .int 0]) rfl hb.1 hb.2 rfl rfl rfl rfl rfl hq
theorem B60_54 {s1 : Nat} (hs1 : s1 < 4) : zd S 60 54 [some (.ref 65), some (.ref (7 + 12 * s1))] [] I J k = some (none, mk I J, k) := by
  refine (tt_f rfl).trans ?_
  refine tt_go.trans ?_
  exact tt_rv rfl
theorem B60_57 {s1 : Nat} {v1 : Int32} {I2 : zI} {J3 : zJ} (hb : Nat.ble k.1 (mBu 60).1 = true ∧ Nat.ble k.2 (mBu 60).2 = true) (hs1 : s1 < 4) (hq : zq S 63 [.ref 65, .ref (7 + 12 * s1)] I J (some (.int v1)) I2 J3) : zd S 60 57 [some (.ref 65), some (.ref (7 + 12 * s1))] [] I J k = zd S 60 62 [some (.ref 65), some (.ref (7 + 12 * s1))] [.int v1] I2 J3 k := by
  refine (tt_f rfl).trans ?_
  refine (tt_al rfl).trans ?_
  refine (tt_f rfl).trans ?_
  refine (tt_al rfl).trans ?_
  exact tt_cv (As := [.ref (7 + 12 * s1)]) rfl hb.1 hb.2 rfl rfl rfl rfl rfl hq
theorem B60_62 {t0 : Int32} {s1 : Nat} (hs1 : s1 < 4) : zd S 60 62 [some (.ref 65), some (.ref (7 + 12 * s1))] [.int t0] I J k = if t0 = 0 then zd S 60 84 [some (.ref 65), some (.ref (7 + 12 * s1))] [] I J k else zd S 60 65 [some (.ref 65), some (.ref (7 + 12 * s1))] [] I J k := by
  refine (tt_f rfl).trans ?_
  exact tt_f1 (p := fun x => x = 0) inferInstance rfl
theorem B60_65 {s1 : Nat} (hs1 : s1 < 4) : zd S 60 65 [some (.ref 65), some (.ref (7 + 12 * s1))] [] I J k = zd S 60 70 [some (.ref 65), some (.ref (7 + 12 * s1))] [] (u2 I (7 + 12 * s1) 16 2) J k := by
  refine (tt_f rfl).trans ?_
  refine (tt_al rfl).trans ?_
  refine (tt_f rfl).trans ?_
  refine tt_c.trans ?_
  refine (tt_f rfl).trans ?_
  exact tt_pi (shS hs1) rfl rfl
theorem B60_70 {s1 : Nat} {I1 : zI} {J2 : zJ} (hb : Nat.ble k.1 (mBu 60).1 = true ∧ Nat.ble k.2 (mBu 60).2 = true) (hs1 : s1 < 4) (hq : zq S 66 [.ref 65, .ref (7 + 12 * s1), .int 1] I J none I1 J2) : zd S 60 70 [some (.ref 65), some (.ref (7 + 12 * s1))] [] I J k = zd S 60 76 [some (.ref 65), some (.ref (7 + 12 * s1))] [] I1 J2 k := by
  refine (tt_f rfl).trans ?_
  refine (tt_al rfl).trans ?_
  refine (tt_f rfl).trans ?_
  refine (tt_al rfl).trans ?_
  refine (tt_f rfl).trans ?_
  refine tt_c.trans ?_
  exact tt_cv (As := [.ref (7 + 12 * s1), .int 1]) rfl hb.1 hb.2 rfl rfl rfl rfl rfl hq
theorem B60_76 {s1 : Nat} {I1 : zI} {J2 : zJ} (hb : Nat.ble k.1 (mBu 60).1 = true ∧ Nat.ble k.2 (mBu 60).2 = true) (hs1 : s1 < 4) (hq : zq S 67 [.ref 65, .ref (7 + 12 * s1)] I J none I1 J2) : zd S 60 76 [some (.ref 65), some (.ref (7 + 12 * s1))] [] I J k = zd S 60 81 [some (.ref 65), some (.ref (7 + 12 * s1))] [] I1 J2 k := by
  refine (tt_f rfl).trans ?_
  refine (tt_al rfl).trans ?_
  refine (tt_f rfl).trans ?_
  refine (tt_al rfl).trans ?_
  exact tt_cv (As := [.ref (7 + 12 * s1)]) rfl hb.1 hb.2 rfl rfl rfl rfl rfl hq
theorem B60_81 {s1 : Nat} (hs1 : s1 < 4) : zd S 60 81 [some (.ref 65), some (.ref (7 + 12 * s1))] [] I J k = some (none, mk I J, k) := by
  refine (tt_f rfl).trans ?_
  refine tt_go.trans ?_
  exact tt_rv rfl
theorem B60_84 {s1 : Nat} (hs1 : s1 < 4) : zd S 60 84 [some (.ref 65), some (.ref (7 + 12 * s1))] [] I J k = zd S 60 89 [some (.ref 65), some (.ref (7 + 12 * s1))] [] (u2 I (7 + 12 * s1) 14 3) J k := by
  refine (tt_f rfl).trans ?_
  refine (tt_al rfl).trans ?_
  refine (tt_f rfl).trans ?_
  refine tt_c.trans ?_
  refine (tt_f rfl).trans ?_
  exact tt_pi (shS hs1) rfl rfl
theorem B60_89 {s1 : Nat} (hs1 : s1 < 4) : zd S 60 89 [some (.ref 65), some (.ref (7 + 12 * s1))] [] I J k = some (none, mk I J, k) := by
  exact tt_rv rfl
/-! 61: Planner.placeWhole -/
theorem B61_0 {l2 : Int32} {l3 : Int32} {s1 : Nat} (hs1 : s1 < 4) : zd S 61 0 [some (.ref 65), some (.ref (7 + 12 * s1)), some (.int l2), some (.int l3), none, none, none] [] I J k = if ¬ l2 = 0 then zd S 61 12 [some (.ref 65), some (.ref (7 + 12 * s1)), some (.int l2), some (.int l3), none, none, none] [.ref (14 + 12 * s1)] I J k else zd S 61 8 [some (.ref 65), some (.ref (7 + 12 * s1)), some (.int l2), some (.int l3), none, none, none] [.ref (14 + 12 * s1)] I J k := by
  refine (tt_f rfl).trans ?_
  refine (tt_al rfl).trans ?_
  refine (tt_f rfl).trans ?_
  refine (tt_gr (shS hs1) rfl).trans ?_
  refine (tt_f rfl).trans ?_
  refine (tt_il rfl).trans ?_
  refine (tt_f rfl).trans ?_
  exact tt_f1 (p := fun x => ¬ x = 0) inferInstance rfl
theorem B61_8 {l2 : Int32} {l3 : Int32} {s1 : Nat} {p13x : Nat} (hs1 : s1 < 4) (hp13x : p13x < 2) (hi1 : zin 0 2 = true) (ha2 : ([15 + 12 * s1, 17 + 12 * s1] : List Nat)[(0 : Int32).toNatClampNeg]? = some (15 + 12 * s1 + 2 * p13x)) : zd S 61 8 [some (.ref 65), some (.ref (7 + 12 * s1)), some (.int l2), some (.int l3), none, none, none] [.ref (14 + 12 * s1)] I J k = zd S 61 19 [some (.ref 65), some (.ref (7 + 12 * s1)), some (.int l2), some (.int l3), some (.ref (15 + 12 * s1 + 2 * p13x)), some (.int 1), none] [] I J k := by
  refine (tt_f rfl).trans ?_
  refine tt_c.trans ?_
  refine (tt_f rfl).trans ?_
  refine tt_go.trans ?_
  refine (tt_fk rfl rfl).trans ?_
  refine (tt_gq (shS7 hs1) hi1 ha2).trans ?_
  refine (tt_f rfl).trans ?_
  refine (tt_as rfl rfl).trans ?_
  refine (tt_f rfl).trans ?_
  refine tt_c.trans ?_
  refine (tt_f rfl).trans ?_
  refine (tt_is rfl rfl).trans ?_
  rfl
theorem B61_12 {l2 : Int32} {l3 : Int32} {s1 : Nat} {p13x : Nat} (hs1 : s1 < 4) (hp13x : p13x < 2) (hi1 : zin 1 2 = true) (ha2 : ([15 + 12 * s1, 17 + 12 * s1] : List Nat)[(1 : Int32).toNatClampNeg]? = some (15 + 12 * s1 + 2 * p13x)) : zd S 61 12 [some (.ref 65), some (.ref (7 + 12 * s1)), some (.int l2), some (.int l3), none, none, none] [.ref (14 + 12 * s1)] I J k = zd S 61 19 [some (.ref 65), some (.ref (7 + 12 * s1)), some (.int l2), some (.int l3), some (.ref (15 + 12 * s1 + 2 * p13x)), some (.int 1), none] [] I J k := by
  refine (tt_f rfl).trans ?_
  refine tt_c.trans ?_
  refine (tt_fk rfl rfl).trans ?_
  refine (tt_gq (shS7 hs1) hi1 ha2).trans ?_
  refine (tt_f rfl).trans ?_
  refine (tt_as rfl rfl).trans ?_
  refine (tt_f rfl).trans ?_
  refine tt_c.trans ?_
  refine (tt_f rfl).trans ?_
  refine (tt_is rfl rfl).trans ?_
  rfl
theorem B61_19 {l2 : Int32} {l3 : Int32} {l5 : Int32} {s1 : Nat} {p13x : Nat} (hs1 : s1 < 4) (hp13x : p13x < 2) : zd S 61 19 [some (.ref 65), some (.ref (7 + 12 * s1)), some (.int l2), some (.int l3), some (.ref (15 + 12 * s1 + 2 * p13x)), some (.int l5), none] [] I J k = if (I 70 0) < l5 then zd S 61 52 [some (.ref 65), some (.ref (7 + 12 * s1)), some (.int l2), some (.int l3), some (.ref (15 + 12 * s1 + 2 * p13x)), some (.int l5), none] [] I J k else zd S 61 31 [some (.ref 65), some (.ref (7 + 12 * s1)), some (.int l2), some (.int l3), some (.ref (15 + 12 * s1 + 2 * p13x)), some (.int l5), none] [] I J k := by
  refine (tt_fk rfl rfl).trans ?_
  refine (tt_il rfl).trans ?_
  refine (tt_f rfl).trans ?_
  refine (tt_al rfl).trans ?_
  refine (tt_f rfl).trans ?_
  refine (tt_gr rfl rfl).trans ?_
  refine (tt_f rfl).trans ?_
  refine (tt_gi rfl rfl).trans ?_
  refine (tt_f rfl).trans ?_
  exact tt_f2 (p := fun x y => y < x) inferInstance rfl
theorem B61_31 {l2 : Int32} {l3 : Int32} {l5 : Int32} {s1 : Nat} {p13x : Nat} {v1 : Int32} {I2 : zI} {J3 : zJ} (hb : Nat.ble k.1 (mBu 61).1 = true ∧ Nat.ble k.2 (mBu 61).2 = true) (hs1 : s1 < 4) (hp13x : p13x < 2) (hq : zq S 62 [.ref 65, .ref (7 + 12 * s1), .int l2, .int l5] I J (some (.int v1)) I2 J3) : zd S 61 31 [some (.ref 65), some (.ref (7 + 12 * s1)), some (.int l2), some (.int l3), some (.ref (15 + 12 * s1 + 2 * p13x)), some (.int l5), none] [] I J k = zd S 61 45 [some (.ref 65), some (.ref (7 + 12 * s1)), some (.int l2), some (.int l3), some (.ref (15 + 12 * s1 + 2 * p13x)), some (.int l5), none] [.int v1, .int l5, .ref 69] I2 J3 k := by
  refine (tt_f rfl).trans ?_
  refine (tt_al rfl).trans ?_
  refine (tt_f rfl).trans ?_
  refine (tt_gr rfl rfl).trans ?_
  refine (tt_f rfl).trans ?_
  refine (tt_il rfl).trans ?_
  refine (tt_f rfl).trans ?_
  refine (tt_al rfl).trans ?_
  refine (tt_f rfl).trans ?_
  refine (tt_al rfl).trans ?_
  refine (tt_f rfl).trans ?_
  refine (tt_il rfl).trans ?_
  refine (tt_f rfl).trans ?_
  refine (tt_il rfl).trans ?_
  exact tt_cv (As := [.ref (7 + 12 * s1), .int l2, .int l5]) rfl hb.1 hb.2 rfl rfl rfl rfl rfl hq
theorem B61_45 {l2 : Int32} {l3 : Int32} {l5 : Int32} {t1 : Int32} {t2 : Int32} {s1 : Nat} {p13x : Nat} (hs1 : s1 < 4) (hp13x : p13x < 2) (hi1 : zin t1 5 = true) : zd S 61 45 [some (.ref 65), some (.ref (7 + 12 * s1)), some (.int l2), some (.int l3), some (.ref (15 + 12 * s1 + 2 * p13x)), some (.int l5), none] [.int t2, .int t1, .ref 69] I J k = zd S 61 46 [some (.ref 65), some (.ref (7 + 12 * s1)), some (.int l2), some (.int l3), some (.ref (15 + 12 * s1 + 2 * p13x)), some (.int l5), none] [] (u2 I 69 t1.toNatClampNeg t2) J k := by
  refine (tt_f rfl).trans ?_
  exact tt_pa rfl rfl hi1
theorem B61_46 {l2 : Int32} {l3 : Int32} {l5 : Int32} {s1 : Nat} {p13x : Nat} (hs1 : s1 < 4) (hp13x : p13x < 2) : zd S 61 46 [some (.ref 65), some (.ref (7 + 12 * s1)), some (.int l2), some (.int l3), some (.ref (15 + 12 * s1 + 2 * p13x)), some (.int l5), none] [] I J k = zd S 61 19 [some (.ref 65), some (.ref (7 + 12 * s1)), some (.int l2), some (.int l3), some (.ref (15 + 12 * s1 + 2 * p13x)), some (.int (l5 + 1)), none] [] I J k := by
  refine (tt_f rfl).trans ?_
  refine (tt_in rfl rfl).trans ?_
  refine (tt_f rfl).trans ?_
  refine tt_go.trans ?_
  rfl
theorem B61_52 {l2 : Int32} {l3 : Int32} {l5 : Int32} {s1 : Nat} {p13x : Nat} (hs1 : s1 < 4) (hp13x : p13x < 2) : zd S 61 52 [some (.ref 65), some (.ref (7 + 12 * s1)), some (.int l2), some (.int l3), some (.ref (15 + 12 * s1 + 2 * p13x)), some (.int l5), none] [] I J k = zd S 61 55 [some (.ref 65), some (.ref (7 + 12 * s1)), some (.int l2), some (.int l3), some (.ref (15 + 12 * s1 + 2 * p13x)), some (.int l3), none] [] I J k := by
  refine (tt_f rfl).trans ?_
  refine (tt_il rfl).trans ?_
  refine (tt_f rfl).trans ?_
  refine (tt_is rfl rfl).trans ?_
  rfl
theorem B61_55 {l2 : Int32} {o3 : Option Value} {l5 : Int32} {o6 : Option Value} {s1 : Nat} {p13x : Nat} (hs1 : s1 < 4) (hp13x : p13x < 2) : zd S 61 55 [some (.ref 65), some (.ref (7 + 12 * s1)), some (.int l2), o3, some (.ref (15 + 12 * s1 + 2 * p13x)), some (.int l5), o6] [] I J k = if 3 ≤ l5 then zd S 61 134 [some (.ref 65), some (.ref (7 + 12 * s1)), some (.int l2), none, some (.ref (15 + 12 * s1 + 2 * p13x)), some (.int l5), none] [] I J k else zd S 61 61 [some (.ref 65), some (.ref (7 + 12 * s1)), some (.int l2), none, some (.ref (15 + 12 * s1 + 2 * p13x)), some (.int l5), none] [] I J k := by
  refine (tt_fk rfl rfl).trans ?_
  refine (tt_il rfl).trans ?_
  refine (tt_f rfl).trans ?_
  refine tt_c.trans ?_
  refine (tt_f rfl).trans ?_
  exact tt_f2 (p := fun x y => y ≤ x) inferInstance rfl
theorem B61_61 {l2 : Int32} {l5 : Int32} {s1 : Nat} {p13x : Nat} (hs1 : s1 < 4) (hp13x : p13x < 2) : zd S 61 61 [some (.ref 65), some (.ref (7 + 12 * s1)), some (.int l2), none, some (.ref (15 + 12 * s1 + 2 * p13x)), some (.int l5), none] [] I J k = zd S 61 70 [some (.ref 65), some (.ref (7 + 12 * s1)), some (.int l2), none, some (.ref (15 + 12 * s1 + 2 * p13x)), some (.int l5), some (.int (I 70 0))] [] I J k := by
  refine (tt_f rfl).trans ?_
  refine (tt_al rfl).trans ?_
  refine (tt_f rfl).trans ?_
  refine (tt_gr rfl rfl).trans ?_
  refine (tt_f rfl).trans ?_
  refine (tt_gi rfl rfl).trans ?_
  refine (tt_f rfl).trans ?_
  refine (tt_is rfl rfl).trans ?_
  rfl
theorem B61_70 {l2 : Int32} {l5 : Int32} {l6 : Int32} {s1 : Nat} {p13x : Nat} (hs1 : s1 < 4) (hp13x : p13x < 2) : zd S 61 70 [some (.ref 65), some (.ref (7 + 12 * s1)), some (.int l2), none, some (.ref (15 + 12 * s1 + 2 * p13x)), some (.int l5), some (.int l6)] [] I J k = if l6 < 1 then zd S 61 128 [some (.ref 65), some (.ref (7 + 12 * s1)), some (.int l2), none, some (.ref (15 + 12 * s1 + 2 * p13x)), some (.int l5), some (.int l6)] [] I J k else zd S 61 76 [some (.ref 65), some (.ref (7 + 12 * s1)), some (.int l2), none, some (.ref (15 + 12 * s1 + 2 * p13x)), some (.int l5), some (.int l6)] [] I J k := by
  refine (tt_fk rfl rfl).trans ?_
  refine (tt_il rfl).trans ?_
  refine (tt_f rfl).trans ?_
  refine tt_c.trans ?_
  refine (tt_f rfl).trans ?_
  exact tt_f2 (p := fun x y => x < y) inferInstance rfl
theorem B61_76 {l2 : Int32} {l5 : Int32} {l6 : Int32} {s1 : Nat} {p13x : Nat} (hs1 : s1 < 4) (hp13x : p13x < 2) (hi1 : zin l6 5 = true) : zd S 61 76 [some (.ref 65), some (.ref (7 + 12 * s1)), some (.int l2), none, some (.ref (15 + 12 * s1 + 2 * p13x)), some (.int l5), some (.int l6)] [] I J k = if (I 69 l6.toNatClampNeg) = (-1) then zd S 61 122 [some (.ref 65), some (.ref (7 + 12 * s1)), some (.int l2), none, some (.ref (15 + 12 * s1 + 2 * p13x)), some (.int l5), some (.int l6)] [] I J k else zd S 61 87 [some (.ref 65), some (.ref (7 + 12 * s1)), some (.int l2), none, some (.ref (15 + 12 * s1 + 2 * p13x)), some (.int l5), some (.int l6)] [] I J k := by
  refine (tt_f rfl).trans ?_
  refine (tt_al rfl).trans ?_
  refine (tt_f rfl).trans ?_
  refine (tt_gr rfl rfl).trans ?_
  refine (tt_f rfl).trans ?_
  refine (tt_il rfl).trans ?_
  refine (tt_f rfl).trans ?_
  refine (tt_ga rfl rfl hi1).trans ?_
  refine (tt_f rfl).trans ?_
  refine tt_c.trans ?_
  refine (tt_f rfl).trans ?_
  exact tt_f2 (p := fun x y => x = y) inferInstance rfl
theorem B61_87 {l2 : Int32} {l5 : Int32} {l6 : Int32} {s1 : Nat} {p13x : Nat} {v2 : Int32} {I3 : zI} {J4 : zJ} (hb : Nat.ble k.1 (mBu 61).1 = true ∧ Nat.ble k.2 (mBu 61).2 = true) (hs1 : s1 < 4) (hp13x : p13x < 2) (hi1 : zin l6 5 = true) (hq : zq S 85 [.ref 70, .ref (15 + 12 * s1 + 2 * p13x), .int l5, .int l6, .int (I 69 l6.toNatClampNeg)] I J (some (.int v2)) I3 J4) : zd S 61 87 [some (.ref 65), some (.ref (7 + 12 * s1)), some (.int l2), none, some (.ref (15 + 12 * s1 + 2 * p13x)), some (.int l5), some (.int l6)] [] I J k = zd S 61 107 [some (.ref 65), some (.ref (7 + 12 * s1)), some (.int l2), none, some (.ref (15 + 12 * s1 + 2 * p13x)), some (.int l5), some (.int l6)] [.int v2] I3 J4 k := by
  refine (tt_f rfl).trans ?_
  refine (tt_al rfl).trans ?_
  refine (tt_f rfl).trans ?_
  refine (tt_gr rfl rfl).trans ?_
  refine (tt_f rfl).trans ?_
  refine (tt_al rfl).trans ?_
  refine (tt_f rfl).trans ?_
  refine (tt_il rfl).trans ?_
  refine (tt_f rfl).trans ?_
  refine (tt_il rfl).trans ?_
  refine (tt_f rfl).trans ?_
  refine (tt_al rfl).trans ?_
  refine (tt_f rfl).trans ?_
  refine (tt_gr rfl rfl).trans ?_
  refine (tt_f rfl).trans ?_
  refine (tt_il rfl).trans ?_
  refine (tt_f rfl).trans ?_
  refine (tt_ga rfl rfl hi1).trans ?_
  exact tt_cv (As := [.ref (15 + 12 * s1 + 2 * p13x), .int l5, .int l6, .int (I 69 l6.toNatClampNeg)]) rfl hb.1 hb.2 rfl rfl rfl rfl rfl hq
theorem B61_107 {l2 : Int32} {l5 : Int32} {l6 : Int32} {t0 : Int32} {s1 : Nat} {p13x : Nat} (hs1 : s1 < 4) (hp13x : p13x < 2) : zd S 61 107 [some (.ref 65), some (.ref (7 + 12 * s1)), some (.int l2), none, some (.ref (15 + 12 * s1 + 2 * p13x)), some (.int l5), some (.int l6)] [.int t0] I J k = if t0 = 0 then zd S 61 122 [some (.ref 65), some (.ref (7 + 12 * s1)), some (.int l2), none, some (.ref (15 + 12 * s1 + 2 * p13x)), some (.int l5), some (.int l6)] [] I J k else zd S 61 110 [some (.ref 65), some (.ref (7 + 12 * s1)), some (.int l2), none, some (.ref (15 + 12 * s1 + 2 * p13x)), some (.int l5), some (.int l6)] [] I J k := by
  refine (tt_f rfl).trans ?_
  exact tt_f1 (p := fun x => x = 0) inferInstance rfl
theorem B61_110 {l2 : Int32} {l5 : Int32} {l6 : Int32} {s1 : Nat} {p13x : Nat} {I1 : zI} {J2 : zJ} (hb : Nat.ble k.1 (mBu 61).1 = true ∧ Nat.ble k.2 (mBu 61).2 = true) (hs1 : s1 < 4) (hp13x : p13x < 2) (hq : zq S 49 [.ref (15 + 12 * s1 + 2 * p13x), .int l2, .int (I (7 + 12 * s1) 15)] I J none I1 J2) : zd S 61 110 [some (.ref 65), some (.ref (7 + 12 * s1)), some (.int l2), none, some (.ref (15 + 12 * s1 + 2 * p13x)), some (.int l5), some (.int l6)] [] I J k = zd S 61 120 [some (.ref 65), some (.ref (7 + 12 * s1)), some (.int l2), none, some (.ref (15 + 12 * s1 + 2 * p13x)), some (.int l5), some (.int l6)] [] I1 J2 k := by
  refine (tt_f rfl).trans ?_
  refine (tt_al rfl).trans ?_
  refine (tt_f rfl).trans ?_
  refine (tt_il rfl).trans ?_
  refine (tt_f rfl).trans ?_
  refine (tt_al rfl).trans ?_
  refine (tt_f rfl).trans ?_
  refine (tt_gi (shS hs1) rfl).trans ?_
  exact tt_cv (As := [.int l2, .int (I (7 + 12 * s1) 15)]) rfl hb.1 hb.2 rfl rfl rfl rfl (shP hs1 hp13x) hq
theorem B61_120 {l2 : Int32} {l5 : Int32} {l6 : Int32} {s1 : Nat} {p13x : Nat} (hs1 : s1 < 4) (hp13x : p13x < 2) (hz : zrt 2 (.int 1) = true) : zd S 61 120 [some (.ref 65), some (.ref (7 + 12 * s1)), some (.int l2), none, some (.ref (15 + 12 * s1 + 2 * p13x)), some (.int l5), some (.int l6)] [] I J k = some ((some (.int 1)), mk I J, k) := by
  refine (tt_f rfl).trans ?_
  refine tt_c.trans ?_
  exact tt_r1 rfl hz
theorem B61_122 {l2 : Int32} {l5 : Int32} {l6 : Int32} {s1 : Nat} {p13x : Nat} (hs1 : s1 < 4) (hp13x : p13x < 2) : zd S 61 122 [some (.ref 65), some (.ref (7 + 12 * s1)), some (.int l2), none, some (.ref (15 + 12 * s1 + 2 * p13x)), some (.int l5), some (.int l6)] [] I J k = zd S 61 70 [some (.ref 65), some (.ref (7 + 12 * s1)), some (.int l2), none, some (.ref (15 + 12 * s1 + 2 * p13x)), some (.int l5), some (.int (l6 + (-1)))] [] I J k := by
  refine (tt_fk rfl rfl).trans ?_
  refine (tt_in rfl rfl).trans ?_
  refine (tt_f rfl).trans ?_
  refine tt_go.trans ?_
  rfl
theorem B61_128 {l2 : Int32} {l5 : Int32} {l6 : Int32} {s1 : Nat} {p13x : Nat} (hs1 : s1 < 4) (hp13x : p13x < 2) : zd S 61 128 [some (.ref 65), some (.ref (7 + 12 * s1)), some (.int l2), none, some (.ref (15 + 12 * s1 + 2 * p13x)), some (.int l5), some (.int l6)] [] I J k = zd S 61 55 [some (.ref 65), some (.ref (7 + 12 * s1)), some (.int l2), none, some (.ref (15 + 12 * s1 + 2 * p13x)), some (.int (l5 + 1)), some (.int l6)] [] I J k := by
  refine (tt_f rfl).trans ?_
  refine (tt_in rfl rfl).trans ?_
  refine (tt_f rfl).trans ?_
  refine tt_go.trans ?_
  rfl
theorem B61_134 {l2 : Int32} {l5 : Int32} {s1 : Nat} {p13x : Nat} (hs1 : s1 < 4) (hp13x : p13x < 2) (hz : zrt 2 (.int 0) = true) : zd S 61 134 [some (.ref 65), some (.ref (7 + 12 * s1)), some (.int l2), none, some (.ref (15 + 12 * s1 + 2 * p13x)), some (.int l5), none] [] I J k = some ((some (.int 0)), mk I J, k) := by
  refine (tt_f rfl).trans ?_
  refine tt_c.trans ?_
  exact tt_r1 rfl hz
/-! 62: Planner.leastHeight -/
theorem B62_0 {l2 : Int32} {l3 : Int32} {s1 : Nat} (hs1 : s1 < 4) : zd S 62 0 [some (.ref 65), some (.ref (7 + 12 * s1)), some (.int l2), some (.int l3), none] [] I J k = zd S 62 3 [some (.ref 65), some (.ref (7 + 12 * s1)), some (.int l2), some (.int l3), some (.int 1)] [] I J k := by
  refine (tt_f rfl).trans ?_
  refine tt_c.trans ?_
  refine (tt_f rfl).trans ?_
  refine (tt_is rfl rfl).trans ?_
  rfl
theorem B62_3 {l2 : Int32} {l3 : Int32} {l4 : Int32} {s1 : Nat} (hs1 : s1 < 4) : zd S 62 3 [some (.ref 65), some (.ref (7 + 12 * s1)), some (.int l2), some (.int l3), some (.int l4)] [] I J k = if (I 70 1) ≤ l4 then zd S 62 64 [some (.ref 65), some (.ref (7 + 12 * s1)), some (.int l2), some (.int l3), some (.int l4)] [] I J k else zd S 62 15 [some (.ref 65), some (.ref (7 + 12 * s1)), some (.int l2), some (.int l3), some (.int l4)] [] I J k := by
  refine (tt_fk rfl rfl).trans ?_
  refine (tt_il rfl).trans ?_
  refine (tt_f rfl).trans ?_
  refine (tt_al rfl).trans ?_
  refine (tt_f rfl).trans ?_
  refine (tt_gr rfl rfl).trans ?_
  refine (tt_f rfl).trans ?_
  refine (tt_gi rfl rfl).trans ?_
  refine (tt_f rfl).trans ?_
  exact tt_f2 (p := fun x y => y ≤ x) inferInstance rfl
theorem B62_15 {l2 : Int32} {l3 : Int32} {l4 : Int32} {s1 : Nat} {v1 : Int32} {I2 : zI} {J3 : zJ} (hb : Nat.ble k.1 (mBu 62).1 = true ∧ Nat.ble k.2 (mBu 62).2 = true) (hs1 : s1 < 4) (hq : zq S 34 [.ref 66, .ref (7 + 12 * s1), .int l2, .int l3, .int l4, .int 0] I J (some (.int v1)) I2 J3) : zd S 62 15 [some (.ref 65), some (.ref (7 + 12 * s1)), some (.int l2), some (.int l3), some (.int l4)] [] I J k = zd S 62 28 [some (.ref 65), some (.ref (7 + 12 * s1)), some (.int l2), some (.int l3), some (.int l4)] [.int v1] I2 J3 k := by
  refine (tt_f rfl).trans ?_
  refine (tt_al rfl).trans ?_
  refine (tt_f rfl).trans ?_
  refine (tt_gr rfl rfl).trans ?_
  refine (tt_f rfl).trans ?_
  refine (tt_al rfl).trans ?_
  refine (tt_f rfl).trans ?_
  refine (tt_il rfl).trans ?_
  refine (tt_f rfl).trans ?_
  refine (tt_il rfl).trans ?_
  refine (tt_f rfl).trans ?_
  refine (tt_il rfl).trans ?_
  refine (tt_f rfl).trans ?_
  refine tt_c.trans ?_
  exact tt_cv (As := [.ref (7 + 12 * s1), .int l2, .int l3, .int l4, .int 0]) rfl hb.1 hb.2 rfl rfl rfl rfl rfl hq
theorem B62_28 {l2 : Int32} {l3 : Int32} {l4 : Int32} {t0 : Int32} {s1 : Nat} (hs1 : s1 < 4) : zd S 62 28 [some (.ref 65), some (.ref (7 + 12 * s1)), some (.int l2), some (.int l3), some (.int l4)] [.int t0] I J k = if t0 = 0 then zd S 62 58 [some (.ref 65), some (.ref (7 + 12 * s1)), some (.int l2), some (.int l3), some (.int l4)] [] I J k else zd S 62 31 [some (.ref 65), some (.ref (7 + 12 * s1)), some (.int l2), some (.int l3), some (.int l4)] [] I J k := by
  refine (tt_f rfl).trans ?_
  exact tt_f1 (p := fun x => x = 0) inferInstance rfl
theorem B62_31 {l2 : Int32} {l3 : Int32} {l4 : Int32} {s1 : Nat} {v1 : Int64} {I2 : zI} {J3 : zJ} (hb : Nat.ble k.1 (mBu 62).1 = true ∧ Nat.ble k.2 (mBu 62).2 = true) (hs1 : s1 < 4) (hq : zq S 93 [.ref (7 + 12 * s1)] I J (some (.long v1)) I2 J3) : zd S 62 31 [some (.ref 65), some (.ref (7 + 12 * s1)), some (.int l2), some (.int l3), some (.int l4)] [] I J k = zd S 62 40 [some (.ref 65), some (.ref (7 + 12 * s1)), some (.int l2), some (.int l3), some (.int l4)] [.long v1, .int l2, .ref 66] I2 J3 k := by
  refine (tt_f rfl).trans ?_
  refine (tt_al rfl).trans ?_
  refine (tt_f rfl).trans ?_
  refine (tt_gr rfl rfl).trans ?_
  refine (tt_f rfl).trans ?_
  refine (tt_il rfl).trans ?_
  refine (tt_f rfl).trans ?_
  refine (tt_al rfl).trans ?_
  exact tt_cv (As := []) rfl hb.1 hb.2 rfl rfl rfl rfl (shS hs1) hq
theorem B62_40 {l2 : Int32} {l3 : Int32} {l4 : Int32} {t1 : Int32} {t2 : Int64} {s1 : Nat} {v1 : Int64} {I2 : zI} {J3 : zJ} (hb : Nat.ble k.1 (mBu 62).1 = true ∧ Nat.ble k.2 (mBu 62).2 = true) (hs1 : s1 < 4) (hq : zq S 35 [.ref 66, .int t1, .long t2] I J (some (.long v1)) I2 J3) : zd S 62 40 [some (.ref 65), some (.ref (7 + 12 * s1)), some (.int l2), some (.int l3), some (.int l4)] [.long t2, .int t1, .ref 66] I J k = zd S 62 43 [some (.ref 65), some (.ref (7 + 12 * s1)), some (.int l2), some (.int l3), some (.int l4)] [.long v1] I2 J3 k := by
  exact tt_cv (As := [.int t1, .long t2]) rfl hb.1 hb.2 rfl rfl rfl rfl rfl hq
theorem B62_43 {l2 : Int32} {l3 : Int32} {l4 : Int32} {t0 : Int64} {s1 : Nat} {v1 : Int32} {I2 : zI} {J3 : zJ} (hb : Nat.ble k.1 (mBu 62).1 = true ∧ Nat.ble k.2 (mBu 62).2 = true) (hs1 : s1 < 4) (hq : zq S 22 [.long t0, .int (I (7 + 12 * s1) 15)] I J (some (.int v1)) I2 J3) : zd S 62 43 [some (.ref 65), some (.ref (7 + 12 * s1)), some (.int l2), some (.int l3), some (.int l4)] [.long t0] I J k = zd S 62 50 [some (.ref 65), some (.ref (7 + 12 * s1)), some (.int l2), some (.int l3), some (.int l4)] [.int v1] I2 J3 k := by
  refine (tt_f rfl).trans ?_
  refine (tt_al rfl).trans ?_
  refine (tt_f rfl).trans ?_
  refine (tt_gi (shS hs1) rfl).trans ?_
  exact tt_cs (vs := [.long t0, .int (I (7 + 12 * s1) 15)]) rfl hb.1 hb.2 rfl rfl rfl rfl hq
theorem B62_50 {l2 : Int32} {l3 : Int32} {l4 : Int32} {t0 : Int32} {s1 : Nat} (hs1 : s1 < 4) : zd S 62 50 [some (.ref 65), some (.ref (7 + 12 * s1)), some (.int l2), some (.int l3), some (.int l4)] [.int t0] I J k = if t0 = 0 then zd S 62 58 [some (.ref 65), some (.ref (7 + 12 * s1)), some (.int l2), some (.int l3), some (.int l4)] [] I J k else zd S 62 53 [some (.ref 65), some (.ref (7 + 12 * s1)), some (.int l2), some (.int l3), some (.int l4)] [] I J k := by
  refine (tt_f rfl).trans ?_
  exact tt_f1 (p := fun x => x = 0) inferInstance rfl
theorem B62_53 {l2 : Int32} {l3 : Int32} {l4 : Int32} {s1 : Nat} (hs1 : s1 < 4) : zd S 62 53 [some (.ref 65), some (.ref (7 + 12 * s1)), some (.int l2), some (.int l3), some (.int l4)] [] I J k = some ((some (.int (l4 + 1))), mk I J, k) := by
  refine (tt_f rfl).trans ?_
  refine (tt_il rfl).trans ?_
  refine (tt_f rfl).trans ?_
  refine tt_c.trans ?_
  refine (tt_f rfl).trans ?_
  refine tt_bi.trans ?_
  exact tt_r1 rfl rfl
theorem B62_58 {l2 : Int32} {l3 : Int32} {l4 : Int32} {s1 : Nat} (hs1 : s1 < 4) : zd S 62 58 [some (.ref 65), some (.ref (7 + 12 * s1)), some (.int l2), some (.int l3), some (.int l4)] [] I J k = zd S 62 3 [some (.ref 65), some (.ref (7 + 12 * s1)), some (.int l2), some (.int l3), some (.int (l4 + 1))] [] I J k := by
  refine (tt_fk rfl rfl).trans ?_
  refine (tt_in rfl rfl).trans ?_
  refine (tt_f rfl).trans ?_
  refine tt_go.trans ?_
  rfl
theorem B62_64 {l2 : Int32} {l3 : Int32} {l4 : Int32} {s1 : Nat} (hs1 : s1 < 4) : zd S 62 64 [some (.ref 65), some (.ref (7 + 12 * s1)), some (.int l2), some (.int l3), some (.int l4)] [] I J k = some ((some (.int (-1))), mk I J, k) := by
  refine (tt_f rfl).trans ?_
  refine tt_c.trans ?_
  exact tt_r1 rfl rfl
/-! 63: Planner.placeJump -/
theorem B63_0 {s1 : Nat} (hs1 : s1 < 4) : zd S 63 0 [some (.ref 65), some (.ref (7 + 12 * s1)), none, none, none, none] [] I J k = zd S 63 2 [some (.ref 65), some (.ref (7 + 12 * s1)), some (.int 0), none, none, none] [] I J k := by
  refine (tt_f rfl).trans ?_
  refine tt_c.trans ?_
  refine (tt_f rfl).trans ?_
  refine (tt_is rfl rfl).trans ?_
  rfl
theorem B63_2 {l2 : Int32} {o3 : Option Value} {s1 : Nat} (hs1 : s1 < 4) : zd S 63 2 [some (.ref 65), some (.ref (7 + 12 * s1)), some (.int l2), o3, none, none] [] I J k = if 2 ≤ l2 then zd S 63 97 [some (.ref 65), some (.ref (7 + 12 * s1)), some (.int l2), none, none, none] [] I J k else zd S 63 7 [some (.ref 65), some (.ref (7 + 12 * s1)), some (.int l2), none, none, none] [] I J k := by
  refine (tt_fk rfl rfl).trans ?_
  refine (tt_il rfl).trans ?_
  refine (tt_f rfl).trans ?_
  refine tt_c.trans ?_
  refine (tt_f rfl).trans ?_
  exact tt_f2 (p := fun x y => y ≤ x) inferInstance rfl
theorem B63_7 {l2 : Int32} {s1 : Nat} (hs1 : s1 < 4) : zd S 63 7 [some (.ref 65), some (.ref (7 + 12 * s1)), some (.int l2), none, none, none] [] I J k = zd S 63 12 [some (.ref 65), some (.ref (7 + 12 * s1)), some (.int l2), none, none, none] [] I (v2 J 65 3 0) k := by
  refine (tt_f rfl).trans ?_
  refine (tt_al rfl).trans ?_
  refine (tt_f rfl).trans ?_
  refine tt_c.trans ?_
  refine (tt_f rfl).trans ?_
  exact tt_pj rfl rfl rfl
theorem B63_12 {l2 : Int32} {s1 : Nat} (hs1 : s1 < 4) : zd S 63 12 [some (.ref 65), some (.ref (7 + 12 * s1)), some (.int l2), none, none, none] [] I J k = zd S 63 20 [some (.ref 65), some (.ref (7 + 12 * s1)), some (.int l2), some (.int (I 70 0)), none, none] [] I J k := by
  refine (tt_f rfl).trans ?_
  refine (tt_al rfl).trans ?_
  refine (tt_f rfl).trans ?_
  refine (tt_gr rfl rfl).trans ?_
  refine (tt_f rfl).trans ?_
  refine (tt_gi rfl rfl).trans ?_
  refine (tt_f rfl).trans ?_
  refine (tt_is rfl rfl).trans ?_
  rfl
theorem B63_20 {l2 : Int32} {l3 : Int32} {o4 : Option Value} {s1 : Nat} (hs1 : s1 < 4) : zd S 63 20 [some (.ref 65), some (.ref (7 + 12 * s1)), some (.int l2), some (.int l3), o4, none] [] I J k = if l3 < 1 then zd S 63 91 [some (.ref 65), some (.ref (7 + 12 * s1)), some (.int l2), some (.int l3), none, none] [] I J k else zd S 63 25 [some (.ref 65), some (.ref (7 + 12 * s1)), some (.int l2), some (.int l3), none, none] [] I J k := by
  refine (tt_fk rfl rfl).trans ?_
  refine (tt_il rfl).trans ?_
  refine (tt_f rfl).trans ?_
  refine tt_c.trans ?_
  refine (tt_f rfl).trans ?_
  exact tt_f2 (p := fun x y => x < y) inferInstance rfl
theorem B63_25 {l2 : Int32} {l3 : Int32} {s1 : Nat} (hs1 : s1 < 4) : zd S 63 25 [some (.ref 65), some (.ref (7 + 12 * s1)), some (.int l2), some (.int l3), none, none] [] I J k = zd S 63 28 [some (.ref 65), some (.ref (7 + 12 * s1)), some (.int l2), some (.int l3), some (.int 0), none] [] I J k := by
  refine (tt_f rfl).trans ?_
  refine tt_c.trans ?_
  refine (tt_f rfl).trans ?_
  refine (tt_is rfl rfl).trans ?_
  rfl
theorem B63_28 {l2 : Int32} {l3 : Int32} {l4 : Int32} {o5 : Option Value} {s1 : Nat} (hs1 : s1 < 4) : zd S 63 28 [some (.ref 65), some (.ref (7 + 12 * s1)), some (.int l2), some (.int l3), some (.int l4), o5] [] I J k = if (I 70 1) ≤ l4 then zd S 63 85 [some (.ref 65), some (.ref (7 + 12 * s1)), some (.int l2), some (.int l3), some (.int l4), none] [] I J k else zd S 63 40 [some (.ref 65), some (.ref (7 + 12 * s1)), some (.int l2), some (.int l3), some (.int l4), none] [] I J k := by
  refine (tt_fk rfl rfl).trans ?_
  refine (tt_il rfl).trans ?_
  refine (tt_f rfl).trans ?_
  refine (tt_al rfl).trans ?_
  refine (tt_f rfl).trans ?_
  refine (tt_gr rfl rfl).trans ?_
  refine (tt_f rfl).trans ?_
  refine (tt_gi rfl rfl).trans ?_
  refine (tt_f rfl).trans ?_
  exact tt_f2 (p := fun x y => y ≤ x) inferInstance rfl
theorem B63_40 {l2 : Int32} {l3 : Int32} {l4 : Int32} {s1 : Nat} (hs1 : s1 < 4) : zd S 63 40 [some (.ref 65), some (.ref (7 + 12 * s1)), some (.int l2), some (.int l3), some (.int l4), none] [] I J k = zd S 63 43 [some (.ref 65), some (.ref (7 + 12 * s1)), some (.int l2), some (.int l3), some (.int l4), some (.int 0)] [] I J k := by
  refine (tt_f rfl).trans ?_
  refine tt_c.trans ?_
  refine (tt_f rfl).trans ?_
  refine (tt_is rfl rfl).trans ?_
  rfl
theorem B63_43 {l2 : Int32} {l3 : Int32} {l4 : Int32} {l5 : Int32} {s1 : Nat} (hs1 : s1 < 4) : zd S 63 43 [some (.ref 65), some (.ref (7 + 12 * s1)), some (.int l2), some (.int l3), some (.int l4), some (.int l5)] [] I J k = if (I 70 0) < (l5 + l3) then zd S 63 79 [some (.ref 65), some (.ref (7 + 12 * s1)), some (.int l2), some (.int l3), some (.int l4), some (.int l5)] [] I J k else zd S 63 57 [some (.ref 65), some (.ref (7 + 12 * s1)), some (.int l2), some (.int l3), some (.int l4), some (.int l5)] [] I J k := by
  refine (tt_fk rfl rfl).trans ?_
  refine (tt_il rfl).trans ?_
  refine (tt_f rfl).trans ?_
  refine (tt_il rfl).trans ?_
  refine (tt_f rfl).trans ?_
  refine tt_bi.trans ?_
  refine (tt_f rfl).trans ?_
  refine (tt_al rfl).trans ?_
  refine (tt_f rfl).trans ?_
  refine (tt_gr rfl rfl).trans ?_
  refine (tt_f rfl).trans ?_
  refine (tt_gi rfl rfl).trans ?_
  refine (tt_f rfl).trans ?_
  exact tt_f2 (p := fun x y => y < x) inferInstance rfl
theorem B63_57 {l2 : Int32} {l3 : Int32} {l4 : Int32} {l5 : Int32} {s1 : Nat} {v1 : Int32} {I2 : zI} {J3 : zJ} (hb : Nat.ble k.1 (mBu 63).1 = true ∧ Nat.ble k.2 (mBu 63).2 = true) (hs1 : s1 < 4) (hq : zq S 64 [.ref 65, .ref (7 + 12 * s1), .int l2, .int l5, .int l4, .int l3] I J (some (.int v1)) I2 J3) : zd S 63 57 [some (.ref 65), some (.ref (7 + 12 * s1)), some (.int l2), some (.int l3), some (.int l4), some (.int l5)] [] I J k = zd S 63 68 [some (.ref 65), some (.ref (7 + 12 * s1)), some (.int l2), some (.int l3), some (.int l4), some (.int l5)] [.int v1] I2 J3 k := by
  refine (tt_f rfl).trans ?_
  refine (tt_al rfl).trans ?_
  refine (tt_f rfl).trans ?_
  refine (tt_al rfl).trans ?_
  refine (tt_f rfl).trans ?_
  refine (tt_il rfl).trans ?_
  refine (tt_f rfl).trans ?_
  refine (tt_il rfl).trans ?_
  refine (tt_f rfl).trans ?_
  refine (tt_il rfl).trans ?_
  refine (tt_f rfl).trans ?_
  refine (tt_il rfl).trans ?_
  exact tt_cv (As := [.ref (7 + 12 * s1), .int l2, .int l5, .int l4, .int l3]) rfl hb.1 hb.2 rfl rfl rfl rfl rfl hq
theorem B63_68 {l2 : Int32} {l3 : Int32} {l4 : Int32} {l5 : Int32} {t0 : Int32} {s1 : Nat} (hs1 : s1 < 4) : zd S 63 68 [some (.ref 65), some (.ref (7 + 12 * s1)), some (.int l2), some (.int l3), some (.int l4), some (.int l5)] [.int t0] I J k = if t0 = 0 then zd S 63 73 [some (.ref 65), some (.ref (7 + 12 * s1)), some (.int l2), some (.int l3), some (.int l4), some (.int l5)] [] I J k else zd S 63 71 [some (.ref 65), some (.ref (7 + 12 * s1)), some (.int l2), some (.int l3), some (.int l4), some (.int l5)] [] I J k := by
  refine (tt_f rfl).trans ?_
  exact tt_f1 (p := fun x => x = 0) inferInstance rfl
theorem B63_71 {l2 : Int32} {l3 : Int32} {l4 : Int32} {l5 : Int32} {s1 : Nat} (hs1 : s1 < 4) (hz : zrt 2 (.int 1) = true) : zd S 63 71 [some (.ref 65), some (.ref (7 + 12 * s1)), some (.int l2), some (.int l3), some (.int l4), some (.int l5)] [] I J k = some ((some (.int 1)), mk I J, k) := by
  refine (tt_f rfl).trans ?_
  refine tt_c.trans ?_
  exact tt_r1 rfl hz
theorem B63_73 {l2 : Int32} {l3 : Int32} {l4 : Int32} {l5 : Int32} {s1 : Nat} (hs1 : s1 < 4) : zd S 63 73 [some (.ref 65), some (.ref (7 + 12 * s1)), some (.int l2), some (.int l3), some (.int l4), some (.int l5)] [] I J k = zd S 63 43 [some (.ref 65), some (.ref (7 + 12 * s1)), some (.int l2), some (.int l3), some (.int l4), some (.int (l5 + 1))] [] I J k := by
  refine (tt_f rfl).trans ?_
  refine (tt_in rfl rfl).trans ?_
  refine (tt_f rfl).trans ?_
  refine tt_go.trans ?_
  rfl
theorem B63_79 {l2 : Int32} {l3 : Int32} {l4 : Int32} {l5 : Int32} {s1 : Nat} (hs1 : s1 < 4) : zd S 63 79 [some (.ref 65), some (.ref (7 + 12 * s1)), some (.int l2), some (.int l3), some (.int l4), some (.int l5)] [] I J k = zd S 63 28 [some (.ref 65), some (.ref (7 + 12 * s1)), some (.int l2), some (.int l3), some (.int (l4 + 1)), some (.int l5)] [] I J k := by
  refine (tt_f rfl).trans ?_
  refine (tt_in rfl rfl).trans ?_
  refine (tt_f rfl).trans ?_
  refine tt_go.trans ?_
  rfl
theorem B63_85 {l2 : Int32} {l3 : Int32} {l4 : Int32} {s1 : Nat} (hs1 : s1 < 4) : zd S 63 85 [some (.ref 65), some (.ref (7 + 12 * s1)), some (.int l2), some (.int l3), some (.int l4), none] [] I J k = zd S 63 20 [some (.ref 65), some (.ref (7 + 12 * s1)), some (.int l2), some (.int (l3 + (-1))), some (.int l4), none] [] I J k := by
  refine (tt_f rfl).trans ?_
  refine (tt_in rfl rfl).trans ?_
  refine (tt_f rfl).trans ?_
  refine tt_go.trans ?_
  rfl
theorem B63_91 {l2 : Int32} {l3 : Int32} {s1 : Nat} (hs1 : s1 < 4) : zd S 63 91 [some (.ref 65), some (.ref (7 + 12 * s1)), some (.int l2), some (.int l3), none, none] [] I J k = zd S 63 2 [some (.ref 65), some (.ref (7 + 12 * s1)), some (.int (l2 + 1)), some (.int l3), none, none] [] I J k := by
  refine (tt_f rfl).trans ?_
  refine (tt_in rfl rfl).trans ?_
  refine (tt_f rfl).trans ?_
  refine tt_go.trans ?_
  rfl
theorem B63_97 {l2 : Int32} {s1 : Nat} (hs1 : s1 < 4) (hz : zrt 2 (.int 0) = true) : zd S 63 97 [some (.ref 65), some (.ref (7 + 12 * s1)), some (.int l2), none, none, none] [] I J k = some ((some (.int 0)), mk I J, k) := by
  refine (tt_f rfl).trans ?_
  refine tt_c.trans ?_
  exact tt_r1 rfl hz
/-! 64: Planner.jumpFrom -/
theorem B64_0 {l2 : Int32} {l3 : Int32} {l4 : Int32} {l5 : Int32} {s1 : Nat} {v1 : Int32} {I2 : zI} {J3 : zJ} (hb : Nat.ble k.1 (mBu 64).1 = true ∧ Nat.ble k.2 (mBu 64).2 = true) (hs1 : s1 < 4) (hq : zq S 86 [.ref 70, .int l2, .int l3, .int l4, .int l5] I J (some (.int v1)) I2 J3) : zd S 64 0 [some (.ref 65), some (.ref (7 + 12 * s1)), some (.int l2), some (.int l3), some (.int l4), some (.int l5), none, none] [] I J k = zd S 64 13 [some (.ref 65), some (.ref (7 + 12 * s1)), some (.int l2), some (.int l3), some (.int l4), some (.int l5), none, none] [.int v1] I2 J3 k := by
  refine (tt_f rfl).trans ?_
  refine (tt_al rfl).trans ?_
  refine (tt_f rfl).trans ?_
  refine (tt_gr rfl rfl).trans ?_
  refine (tt_f rfl).trans ?_
  refine (tt_il rfl).trans ?_
  refine (tt_f rfl).trans ?_
  refine (tt_il rfl).trans ?_
  refine (tt_f rfl).trans ?_
  refine (tt_il rfl).trans ?_
  refine (tt_f rfl).trans ?_
  refine (tt_il rfl).trans ?_
  exact tt_cv (As := [.int l2, .int l3, .int l4, .int l5]) rfl hb.1 hb.2 rfl rfl rfl rfl rfl hq
theorem B64_13 {l2 : Int32} {l3 : Int32} {l4 : Int32} {l5 : Int32} {t0 : Int32} {s1 : Nat} (hs1 : s1 < 4) : zd S 64 13 [some (.ref 65), some (.ref (7 + 12 * s1)), some (.int l2), some (.int l3), some (.int l4), some (.int l5), none, none] [.int t0] I J k = if t0 < 2 then zd S 64 40 [some (.ref 65), some (.ref (7 + 12 * s1)), some (.int l2), some (.int l3), some (.int l4), some (.int l5), some (.int t0), none] [] I J k else zd S 64 21 [some (.ref 65), some (.ref (7 + 12 * s1)), some (.int l2), some (.int l3), some (.int l4), some (.int l5), some (.int t0), none] [] I J k := by
  refine (tt_f rfl).trans ?_
  refine (tt_is rfl rfl).trans ?_
  refine (tt_f rfl).trans ?_
  refine (tt_il rfl).trans ?_
  refine (tt_f rfl).trans ?_
  refine tt_c.trans ?_
  refine (tt_f rfl).trans ?_
  exact tt_f2 (p := fun x y => x < y) inferInstance rfl
theorem B64_21 {l2 : Int32} {l3 : Int32} {l4 : Int32} {l5 : Int32} {l6 : Int32} {s1 : Nat} {v1 : Int32} {I2 : zI} {J3 : zJ} (hb : Nat.ble k.1 (mBu 64).1 = true ∧ Nat.ble k.2 (mBu 64).2 = true) (hs1 : s1 < 4) (hq : zq S 34 [.ref 66, .ref (7 + 12 * s1), .int 0, .int l5, .int (l6 - 1), .int 1] I J (some (.int v1)) I2 J3) : zd S 64 21 [some (.ref 65), some (.ref (7 + 12 * s1)), some (.int l2), some (.int l3), some (.int l4), some (.int l5), some (.int l6), none] [] I J k = zd S 64 37 [some (.ref 65), some (.ref (7 + 12 * s1)), some (.int l2), some (.int l3), some (.int l4), some (.int l5), some (.int l6), none] [.int v1] I2 J3 k := by
  refine (tt_f rfl).trans ?_
  refine (tt_al rfl).trans ?_
  refine (tt_f rfl).trans ?_
  refine (tt_gr rfl rfl).trans ?_
  refine (tt_f rfl).trans ?_
  refine (tt_al rfl).trans ?_
  refine (tt_f rfl).trans ?_
  refine tt_c.trans ?_
  refine (tt_f rfl).trans ?_
  refine (tt_il rfl).trans ?_
  refine (tt_f rfl).trans ?_
  refine (tt_il rfl).trans ?_
  refine (tt_f rfl).trans ?_
  refine tt_c.trans ?_
  refine (tt_f rfl).trans ?_
  refine tt_bi.trans ?_
  refine (tt_f rfl).trans ?_
  refine tt_c.trans ?_
  exact tt_cv (As := [.ref (7 + 12 * s1), .int 0, .int l5, .int (l6 - 1), .int 1]) rfl hb.1 hb.2 rfl rfl rfl rfl rfl hq
theorem B64_37 {l2 : Int32} {l3 : Int32} {l4 : Int32} {l5 : Int32} {l6 : Int32} {t0 : Int32} {s1 : Nat} (hs1 : s1 < 4) : zd S 64 37 [some (.ref 65), some (.ref (7 + 12 * s1)), some (.int l2), some (.int l3), some (.int l4), some (.int l5), some (.int l6), none] [.int t0] I J k = if ¬ t0 = 0 then zd S 64 42 [some (.ref 65), some (.ref (7 + 12 * s1)), some (.int l2), some (.int l3), some (.int l4), some (.int l5), some (.int l6), none] [] I J k else zd S 64 40 [some (.ref 65), some (.ref (7 + 12 * s1)), some (.int l2), some (.int l3), some (.int l4), some (.int l5), some (.int l6), none] [] I J k := by
  refine (tt_f rfl).trans ?_
  exact tt_f1 (p := fun x => ¬ x = 0) inferInstance rfl
theorem B64_40 {l2 : Int32} {l3 : Int32} {l4 : Int32} {l5 : Int32} {l6 : Int32} {s1 : Nat} (hs1 : s1 < 4) (hz : zrt 2 (.int 0) = true) : zd S 64 40 [some (.ref 65), some (.ref (7 + 12 * s1)), some (.int l2), some (.int l3), some (.int l4), some (.int l5), some (.int l6), none] [] I J k = some ((some (.int 0)), mk I J, k) := by
  refine (tt_fk rfl rfl).trans ?_
  refine tt_c.trans ?_
  exact tt_r1 rfl hz
theorem B64_42 {l2 : Int32} {l3 : Int32} {l4 : Int32} {l5 : Int32} {l6 : Int32} {s1 : Nat} {v1 : Int32} {I2 : zI} {J3 : zJ} (hb : Nat.ble k.1 (mBu 64).1 = true ∧ Nat.ble k.2 (mBu 64).2 = true) (hs1 : s1 < 4) (hq : zq S 65 [.ref 65, .ref (7 + 12 * s1)] I J (some (.int v1)) I2 J3) : zd S 64 42 [some (.ref 65), some (.ref (7 + 12 * s1)), some (.int l2), some (.int l3), some (.int l4), some (.int l5), some (.int l6), none] [] I J k = zd S 64 47 [some (.ref 65), some (.ref (7 + 12 * s1)), some (.int l2), some (.int l3), some (.int l4), some (.int l5), some (.int l6), none] [.int v1] I2 J3 k := by
  refine (tt_f rfl).trans ?_
  refine (tt_al rfl).trans ?_
  refine (tt_f rfl).trans ?_
  refine (tt_al rfl).trans ?_
  exact tt_cv (As := [.ref (7 + 12 * s1)]) rfl hb.1 hb.2 rfl rfl rfl rfl rfl hq
theorem B64_47 {l2 : Int32} {l3 : Int32} {l4 : Int32} {l5 : Int32} {l6 : Int32} {t0 : Int32} {s1 : Nat} (hs1 : s1 < 4) : zd S 64 47 [some (.ref 65), some (.ref (7 + 12 * s1)), some (.int l2), some (.int l3), some (.int l4), some (.int l5), some (.int l6), none] [.int t0] I J k = if t0 = (-1) then zd S 64 67 [some (.ref 65), some (.ref (7 + 12 * s1)), some (.int l2), some (.int l3), some (.int l4), some (.int l5), some (.int l6), some (.int t0)] [] I J k else zd S 64 55 [some (.ref 65), some (.ref (7 + 12 * s1)), some (.int l2), some (.int l3), some (.int l4), some (.int l5), some (.int l6), some (.int t0)] [] I J k := by
  refine (tt_f rfl).trans ?_
  refine (tt_is rfl rfl).trans ?_
  refine (tt_f rfl).trans ?_
  refine (tt_il rfl).trans ?_
  refine (tt_f rfl).trans ?_
  refine tt_c.trans ?_
  refine (tt_f rfl).trans ?_
  exact tt_f2 (p := fun x y => x = y) inferInstance rfl
theorem B64_55 {l2 : Int32} {l3 : Int32} {l4 : Int32} {l5 : Int32} {l6 : Int32} {l7 : Int32} {s1 : Nat} {v1 : Int32} {I2 : zI} {J3 : zJ} (hb : Nat.ble k.1 (mBu 64).1 = true ∧ Nat.ble k.2 (mBu 64).2 = true) (hs1 : s1 < 4) (hq : zq S 22 [.long (J 65 3), .int l7] I J (some (.int v1)) I2 J3) : zd S 64 55 [some (.ref 65), some (.ref (7 + 12 * s1)), some (.int l2), some (.int l3), some (.int l4), some (.int l5), some (.int l6), some (.int l7)] [] I J k = zd S 64 64 [some (.ref 65), some (.ref (7 + 12 * s1)), some (.int l2), some (.int l3), some (.int l4), some (.int l5), some (.int l6), some (.int l7)] [.int v1] I2 J3 k := by
  refine (tt_f rfl).trans ?_
  refine (tt_al rfl).trans ?_
  refine (tt_f rfl).trans ?_
  refine (tt_gj rfl rfl).trans ?_
  refine (tt_f rfl).trans ?_
  refine (tt_il rfl).trans ?_
  exact tt_cs (vs := [.long (J 65 3), .int l7]) rfl hb.1 hb.2 rfl rfl rfl rfl hq
theorem B64_64 {l2 : Int32} {l3 : Int32} {l4 : Int32} {l5 : Int32} {l6 : Int32} {l7 : Int32} {t0 : Int32} {s1 : Nat} (hs1 : s1 < 4) : zd S 64 64 [some (.ref 65), some (.ref (7 + 12 * s1)), some (.int l2), some (.int l3), some (.int l4), some (.int l5), some (.int l6), some (.int l7)] [.int t0] I J k = if t0 = 0 then zd S 64 69 [some (.ref 65), some (.ref (7 + 12 * s1)), some (.int l2), some (.int l3), some (.int l4), some (.int l5), some (.int l6), some (.int l7)] [] I J k else zd S 64 67 [some (.ref 65), some (.ref (7 + 12 * s1)), some (.int l2), some (.int l3), some (.int l4), some (.int l5), some (.int l6), some (.int l7)] [] I J k := by
  refine (tt_f rfl).trans ?_
  exact tt_f1 (p := fun x => x = 0) inferInstance rfl
theorem B64_67 {l2 : Int32} {l3 : Int32} {l4 : Int32} {l5 : Int32} {l6 : Int32} {l7 : Int32} {s1 : Nat} (hs1 : s1 < 4) (hz : zrt 2 (.int 0) = true) : zd S 64 67 [some (.ref 65), some (.ref (7 + 12 * s1)), some (.int l2), some (.int l3), some (.int l4), some (.int l5), some (.int l6), some (.int l7)] [] I J k = some ((some (.int 0)), mk I J, k) := by
  refine (tt_fk rfl rfl).trans ?_
  refine tt_c.trans ?_
  exact tt_r1 rfl hz
theorem B64_69 {l2 : Int32} {l3 : Int32} {l4 : Int32} {l5 : Int32} {l6 : Int32} {l7 : Int32} {s1 : Nat} {v1 : Int32} {I2 : zI} {J3 : zJ} (hb : Nat.ble k.1 (mBu 64).1 = true ∧ Nat.ble k.2 (mBu 64).2 = true) (hs1 : s1 < 4) (hq : zq S 61 [.ref 65, .ref (7 + 12 * s1), .int l7, .int (l2 + 1)] I J (some (.int v1)) I2 J3) : zd S 64 69 [some (.ref 65), some (.ref (7 + 12 * s1)), some (.int l2), some (.int l3), some (.int l4), some (.int l5), some (.int l6), some (.int l7)] [] I J k = zd S 64 79 [some (.ref 65), some (.ref (7 + 12 * s1)), some (.int l2), some (.int l3), some (.int l4), some (.int l5), some (.int l6), some (.int l7)] [.int v1] I2 J3 k := by
  refine (tt_f rfl).trans ?_
  refine (tt_al rfl).trans ?_
  refine (tt_f rfl).trans ?_
  refine (tt_al rfl).trans ?_
  refine (tt_f rfl).trans ?_
  refine (tt_il rfl).trans ?_
  refine (tt_f rfl).trans ?_
  refine (tt_il rfl).trans ?_
  refine (tt_f rfl).trans ?_
  refine tt_c.trans ?_
  refine (tt_f rfl).trans ?_
  refine tt_bi.trans ?_
  exact tt_cv (As := [.ref (7 + 12 * s1), .int l7, .int (l2 + 1)]) rfl hb.1 hb.2 rfl rfl rfl rfl rfl hq
theorem B64_79 {l2 : Int32} {l3 : Int32} {l4 : Int32} {l5 : Int32} {l6 : Int32} {l7 : Int32} {t0 : Int32} {s1 : Nat} (hs1 : s1 < 4) : zd S 64 79 [some (.ref 65), some (.ref (7 + 12 * s1)), some (.int l2), some (.int l3), some (.int l4), some (.int l5), some (.int l6), some (.int l7)] [.int t0] I J k = if ¬ t0 = 0 then zd S 64 97 [some (.ref 65), some (.ref (7 + 12 * s1)), some (.int l2), some (.int l3), some (.int l4), some (.int l5), some (.int l6), some (.int l7)] [] I J k else zd S 64 82 [some (.ref 65), some (.ref (7 + 12 * s1)), some (.int l2), some (.int l3), some (.int l4), some (.int l5), some (.int l6), some (.int l7)] [] I J k := by
  refine (tt_f rfl).trans ?_
  exact tt_f1 (p := fun x => ¬ x = 0) inferInstance rfl
theorem B64_82 {l2 : Int32} {l3 : Int32} {l4 : Int32} {l5 : Int32} {l6 : Int32} {l7 : Int32} {s1 : Nat} (hs1 : s1 < 4) : zd S 64 82 [some (.ref 65), some (.ref (7 + 12 * s1)), some (.int l2), some (.int l3), some (.int l4), some (.int l5), some (.int l6), some (.int l7)] [] I J k = zd S 64 95 [some (.ref 65), some (.ref (7 + 12 * s1)), some (.int l2), some (.int l3), some (.int l4), some (.int l5), some (.int l6), some (.int l7)] [] I (v2 J 65 3 ((J 65 3) ||| (1 <<< (l7.toInt64 &&& 63)))) k := by
  refine (tt_f rfl).trans ?_
  refine (tt_al rfl).trans ?_
  refine (tt_f rfl).trans ?_
  refine (tt_dup rfl).trans ?_
  refine (tt_f rfl).trans ?_
  refine (tt_gj rfl rfl).trans ?_
  refine (tt_f rfl).trans ?_
  refine tt_c.trans ?_
  refine (tt_f rfl).trans ?_
  refine (tt_il rfl).trans ?_
  refine (tt_f rfl).trans ?_
  refine tt_sl.trans ?_
  refine (tt_f rfl).trans ?_
  refine tt_bl.trans ?_
  refine (tt_f rfl).trans ?_
  exact tt_pj rfl rfl rfl
theorem B64_95 {l2 : Int32} {l3 : Int32} {l4 : Int32} {l5 : Int32} {l6 : Int32} {l7 : Int32} {s1 : Nat} (hs1 : s1 < 4) (hz : zrt 2 (.int 0) = true) : zd S 64 95 [some (.ref 65), some (.ref (7 + 12 * s1)), some (.int l2), some (.int l3), some (.int l4), some (.int l5), some (.int l6), some (.int l7)] [] I J k = some ((some (.int 0)), mk I J, k) := by
  refine (tt_f rfl).trans ?_
  refine tt_c.trans ?_
  exact tt_r1 rfl hz
theorem B64_97 {l2 : Int32} {l3 : Int32} {l4 : Int32} {l5 : Int32} {l6 : Int32} {l7 : Int32} {s1 : Nat} {p102x : Nat} {I3 : zI} {J4 : zJ} (hb : Nat.ble k.1 (mBu 64).1 = true ∧ Nat.ble k.2 (mBu 64).2 = true) (hs1 : s1 < 4) (hp102x : p102x < 2) (hi1 : zin 0 2 = true) (ha2 : ([15 + 12 * s1, 17 + 12 * s1] : List Nat)[(0 : Int32).toNatClampNeg]? = some (15 + 12 * s1 + 2 * p102x)) (hq : zq S 48 [.ref (15 + 12 * s1 + 2 * p102x), .int l2, .int l3, .int l4, .int l5, .int l6] I J none I3 J4) : zd S 64 97 [some (.ref 65), some (.ref (7 + 12 * s1)), some (.int l2), some (.int l3), some (.int l4), some (.int l5), some (.int l6), some (.int l7)] [] I J k = zd S 64 114 [some (.ref 65), some (.ref (7 + 12 * s1)), some (.int l2), some (.int l3), some (.int l4), some (.int l5), some (.int l6), some (.int l7)] [] I3 J4 k := by
  refine (tt_f rfl).trans ?_
  refine (tt_al rfl).trans ?_
  refine (tt_f rfl).trans ?_
  refine (tt_gr (shS hs1) rfl).trans ?_
  refine (tt_f rfl).trans ?_
  refine tt_c.trans ?_
  refine (tt_f rfl).trans ?_
  refine (tt_gq (shS7 hs1) hi1 ha2).trans ?_
  refine (tt_f rfl).trans ?_
  refine (tt_il rfl).trans ?_
  refine (tt_f rfl).trans ?_
  refine (tt_il rfl).trans ?_
  refine (tt_f rfl).trans ?_
  refine (tt_il rfl).trans ?_
  refine (tt_f rfl).trans ?_
  refine (tt_il rfl).trans ?_
  refine (tt_f rfl).trans ?_
  refine (tt_il rfl).trans ?_
  exact tt_cv (As := [.int l2, .int l3, .int l4, .int l5, .int l6]) rfl hb.1 hb.2 rfl rfl rfl rfl (shP hs1 hp102x) hq
theorem B64_114 {l2 : Int32} {l3 : Int32} {l4 : Int32} {l5 : Int32} {l6 : Int32} {l7 : Int32} {s1 : Nat} {p119x : Nat} {I3 : zI} {J4 : zJ} (hb : Nat.ble k.1 (mBu 64).1 = true ∧ Nat.ble k.2 (mBu 64).2 = true) (hs1 : s1 < 4) (hp119x : p119x < 2) (hi1 : zin 0 2 = true) (ha2 : ([15 + 12 * s1, 17 + 12 * s1] : List Nat)[(0 : Int32).toNatClampNeg]? = some (15 + 12 * s1 + 2 * p119x)) (hq : zq S 49 [.ref (15 + 12 * s1 + 2 * p119x), .int 0, .int l7] I J none I3 J4) : zd S 64 114 [some (.ref 65), some (.ref (7 + 12 * s1)), some (.int l2), some (.int l3), some (.int l4), some (.int l5), some (.int l6), some (.int l7)] [] I J k = zd S 64 126 [some (.ref 65), some (.ref (7 + 12 * s1)), some (.int l2), some (.int l3), some (.int l4), some (.int l5), some (.int l6), some (.int l7)] [] I3 J4 k := by
  refine (tt_f rfl).trans ?_
  refine (tt_al rfl).trans ?_
  refine (tt_f rfl).trans ?_
  refine (tt_gr (shS hs1) rfl).trans ?_
  refine (tt_f rfl).trans ?_
  refine tt_c.trans ?_
  refine (tt_f rfl).trans ?_
  refine (tt_gq (shS7 hs1) hi1 ha2).trans ?_
  refine (tt_f rfl).trans ?_
  refine tt_c.trans ?_
  refine (tt_f rfl).trans ?_
  refine (tt_il rfl).trans ?_
  exact tt_cv (As := [.int 0, .int l7]) rfl hb.1 hb.2 rfl rfl rfl rfl (shP hs1 hp119x) hq
theorem B64_126 {l2 : Int32} {l3 : Int32} {l4 : Int32} {l5 : Int32} {l6 : Int32} {l7 : Int32} {s1 : Nat} (hs1 : s1 < 4) (hz : zrt 2 (.int 1) = true) : zd S 64 126 [some (.ref 65), some (.ref (7 + 12 * s1)), some (.int l2), some (.int l3), some (.int l4), some (.int l5), some (.int l6), some (.int l7)] [] I J k = some ((some (.int 1)), mk I J, k) := by
  refine (tt_f rfl).trans ?_
  refine tt_c.trans ?_
  exact tt_r1 rfl hz
/-! 65: Planner.greatestSplit -/
theorem B65_0 {s1 : Nat} {v1 : Int64} {I2 : zI} {J3 : zJ} (hb : Nat.ble k.1 (mBu 65).1 = true ∧ Nat.ble k.2 (mBu 65).2 = true) (hs1 : s1 < 4) (hq : zq S 93 [.ref (7 + 12 * s1)] I J (some (.long v1)) I2 J3) : zd S 65 0 [some (.ref 65), some (.ref (7 + 12 * s1)), none, none, none] [] I J k = zd S 65 9 [some (.ref 65), some (.ref (7 + 12 * s1)), none, none, none] [.long v1, .int 0, .ref 66] I2 J3 k := by
  refine (tt_f rfl).trans ?_
  refine (tt_al rfl).trans ?_
  refine (tt_f rfl).trans ?_
  refine (tt_gr rfl rfl).trans ?_
  refine (tt_f rfl).trans ?_
  refine tt_c.trans ?_
  refine (tt_f rfl).trans ?_
  refine (tt_al rfl).trans ?_
  exact tt_cv (As := []) rfl hb.1 hb.2 rfl rfl rfl rfl (shS hs1) hq
theorem B65_9 {t1 : Int32} {t2 : Int64} {s1 : Nat} {v1 : Int64} {I2 : zI} {J3 : zJ} (hb : Nat.ble k.1 (mBu 65).1 = true ∧ Nat.ble k.2 (mBu 65).2 = true) (hs1 : s1 < 4) (hq : zq S 35 [.ref 66, .int t1, .long t2] I J (some (.long v1)) I2 J3) : zd S 65 9 [some (.ref 65), some (.ref (7 + 12 * s1)), none, none, none] [.long t2, .int t1, .ref 66] I J k = zd S 65 12 [some (.ref 65), some (.ref (7 + 12 * s1)), none, none, none] [.long v1] I2 J3 k := by
  exact tt_cv (As := [.int t1, .long t2]) rfl hb.1 hb.2 rfl rfl rfl rfl rfl hq
theorem B65_12 {t0 : Int64} {s1 : Nat} (hs1 : s1 < 4) : zd S 65 12 [some (.ref 65), some (.ref (7 + 12 * s1)), none, none, none] [.long t0] I J k = zd S 65 21 [some (.ref 65), some (.ref (7 + 12 * s1)), some (.long t0), none, some (.int ((I (7 + 12 * s1) 15) - 2))] [] I J k := by
  refine (tt_f rfl).trans ?_
  refine (tt_ls rfl rfl).trans ?_
  refine (tt_f rfl).trans ?_
  refine (tt_al rfl).trans ?_
  refine (tt_f rfl).trans ?_
  refine (tt_gi (shS hs1) rfl).trans ?_
  refine (tt_f rfl).trans ?_
  refine tt_c.trans ?_
  refine (tt_f rfl).trans ?_
  refine tt_bi.trans ?_
  refine (tt_f rfl).trans ?_
  refine (tt_is rfl rfl).trans ?_
  rfl
theorem B65_21 {o0 : Option Value} {o1 : Option Value} {l2 : Int64} {l4 : Int32}  : zd S 65 21 [o0, o1, some (.long l2), none, some (.int l4)] [] I J k = if l4 < 2 then zd S 65 45 [none, none, some (.long l2), none, some (.int l4)] [] I J k else zd S 65 27 [none, none, some (.long l2), none, some (.int l4)] [] I J k := by
  refine (tt_fk rfl rfl).trans ?_
  refine (tt_il rfl).trans ?_
  refine (tt_f rfl).trans ?_
  refine tt_c.trans ?_
  refine (tt_f rfl).trans ?_
  exact tt_f2 (p := fun x y => x < y) inferInstance rfl
theorem B65_27 {l2 : Int64} {l4 : Int32} {v1 : Int32} {I2 : zI} {J3 : zJ} (hb : Nat.ble k.1 (mBu 65).1 = true ∧ Nat.ble k.2 (mBu 65).2 = true) (hq : zq S 22 [.long l2, .int l4] I J (some (.int v1)) I2 J3) : zd S 65 27 [none, none, some (.long l2), none, some (.int l4)] [] I J k = zd S 65 33 [none, none, some (.long l2), none, some (.int l4)] [.int v1] I2 J3 k := by
  refine (tt_f rfl).trans ?_
  refine (tt_ll rfl).trans ?_
  refine (tt_f rfl).trans ?_
  refine (tt_il rfl).trans ?_
  exact tt_cs (vs := [.long l2, .int l4]) rfl hb.1 hb.2 rfl rfl rfl rfl hq
theorem B65_33 {l2 : Int64} {l4 : Int32} {t0 : Int32}  : zd S 65 33 [none, none, some (.long l2), none, some (.int l4)] [.int t0] I J k = if t0 = 0 then zd S 65 39 [none, none, some (.long l2), none, some (.int l4)] [] I J k else zd S 65 36 [none, none, some (.long l2), none, some (.int l4)] [] I J k := by
  refine (tt_f rfl).trans ?_
  exact tt_f1 (p := fun x => x = 0) inferInstance rfl
theorem B65_36 {l2 : Int64} {l4 : Int32}  : zd S 65 36 [none, none, some (.long l2), none, some (.int l4)] [] I J k = some ((some (.int l4)), mk I J, k) := by
  refine (tt_f rfl).trans ?_
  refine (tt_il rfl).trans ?_
  exact tt_r1 rfl rfl
theorem B65_39 {l2 : Int64} {l4 : Int32}  : zd S 65 39 [none, none, some (.long l2), none, some (.int l4)] [] I J k = zd S 65 21 [none, none, some (.long l2), none, some (.int (l4 + (-1)))] [] I J k := by
  refine (tt_f rfl).trans ?_
  refine (tt_in rfl rfl).trans ?_
  refine (tt_f rfl).trans ?_
  refine tt_go.trans ?_
  rfl
theorem B65_45 {l2 : Int64} {l4 : Int32}  : zd S 65 45 [none, none, some (.long l2), none, some (.int l4)] [] I J k = some ((some (.int (-1))), mk I J, k) := by
  refine (tt_f rfl).trans ?_
  refine tt_c.trans ?_
  exact tt_r1 rfl rfl
/-! 66: Planner.putFirstPart -/
theorem B66_0 {l2 : Int32} {s1 : Nat} {p5x : Nat} {I3 : zI} {J4 : zJ} (hb : Nat.ble k.1 (mBu 66).1 = true ∧ Nat.ble k.2 (mBu 66).2 = true) (hs1 : s1 < 4) (hp5x : p5x < 2) (hi1 : zin 0 2 = true) (ha2 : ([15 + 12 * s1, 17 + 12 * s1] : List Nat)[(0 : Int32).toNatClampNeg]? = some (15 + 12 * s1 + 2 * p5x)) (hq : zq S 68 [.ref 65, .ref (7 + 12 * s1), .ref (15 + 12 * s1 + 2 * p5x), .int l2] I J none I3 J4) : zd S 66 0 [some (.ref 65), some (.ref (7 + 12 * s1)), some (.int l2), none, none, none, none] [] I J k = zd S 66 25 [some (.ref 65), some (.ref (7 + 12 * s1)), some (.int l2), some (.ref (15 + 12 * s1 + 2 * p5x)), some (.int (100 * ((I (7 + 12 * s1) 0) + 1))), none, none] [] I3 J4 k := by
  refine (tt_f rfl).trans ?_
  refine (tt_al rfl).trans ?_
  refine (tt_f rfl).trans ?_
  refine (tt_gr (shS hs1) rfl).trans ?_
  refine (tt_f rfl).trans ?_
  refine tt_c.trans ?_
  refine (tt_f rfl).trans ?_
  refine (tt_gq (shS7 hs1) hi1 ha2).trans ?_
  refine (tt_f rfl).trans ?_
  refine (tt_as rfl rfl).trans ?_
  refine (tt_f rfl).trans ?_
  refine tt_c.trans ?_
  refine (tt_f rfl).trans ?_
  refine (tt_al rfl).trans ?_
  refine (tt_f rfl).trans ?_
  refine (tt_gi (shS hs1) rfl).trans ?_
  refine (tt_f rfl).trans ?_
  refine tt_c.trans ?_
  refine (tt_f rfl).trans ?_
  refine tt_bi.trans ?_
  refine (tt_f rfl).trans ?_
  refine tt_bi.trans ?_
  refine (tt_f rfl).trans ?_
  refine (tt_is rfl rfl).trans ?_
  refine (tt_f rfl).trans ?_
  refine (tt_al rfl).trans ?_
  refine (tt_f rfl).trans ?_
  refine (tt_al rfl).trans ?_
  refine (tt_f rfl).trans ?_
  refine (tt_al rfl).trans ?_
  refine (tt_f rfl).trans ?_
  refine (tt_il rfl).trans ?_
  exact tt_cv (As := [.ref (7 + 12 * s1), .ref (15 + 12 * s1 + 2 * p5x), .int l2]) rfl hb.1 hb.2 rfl rfl rfl rfl rfl hq
theorem B66_25 {l2 : Int32} {l4 : Int32} {s1 : Nat} {p5x : Nat} {I1 : zI} {J2 : zJ} (hb : Nat.ble k.1 (mBu 66).1 = true ∧ Nat.ble k.2 (mBu 66).2 = true) (hs1 : s1 < 4) (hp5x : p5x < 2) (hq : zq S 69 [.ref 65, .ref (15 + 12 * s1 + 2 * p5x)] I J none I1 J2) : zd S 66 25 [some (.ref 65), some (.ref (7 + 12 * s1)), some (.int l2), some (.ref (15 + 12 * s1 + 2 * p5x)), some (.int l4), none, none] [] I J k = zd S 66 30 [some (.ref 65), some (.ref (7 + 12 * s1)), some (.int l2), some (.ref (15 + 12 * s1 + 2 * p5x)), some (.int l4), none, none] [] I1 J2 k := by
  refine (tt_f rfl).trans ?_
  refine (tt_al rfl).trans ?_
  refine (tt_f rfl).trans ?_
  refine (tt_al rfl).trans ?_
  exact tt_cv (As := [.ref (15 + 12 * s1 + 2 * p5x)]) rfl hb.1 hb.2 rfl rfl rfl rfl rfl hq
theorem B66_30 {l2 : Int32} {l4 : Int32} {s1 : Nat} {p5x : Nat} (hs1 : s1 < 4) (hp5x : p5x < 2) : zd S 66 30 [some (.ref 65), some (.ref (7 + 12 * s1)), some (.int l2), some (.ref (15 + 12 * s1 + 2 * p5x)), some (.int l4), none, none] [] I J k = zd S 66 33 [some (.ref 65), some (.ref (7 + 12 * s1)), some (.int l2), some (.ref (15 + 12 * s1 + 2 * p5x)), some (.int l4), some (.int 0), none] [] I J k := by
  refine (tt_f rfl).trans ?_
  refine tt_c.trans ?_
  refine (tt_f rfl).trans ?_
  refine (tt_is rfl rfl).trans ?_
  rfl
theorem B66_33 {l2 : Int32} {l4 : Int32} {l5 : Int32} {s1 : Nat} {p5x : Nat} (hs1 : s1 < 4) (hp5x : p5x < 2) : zd S 66 33 [some (.ref 65), some (.ref (7 + 12 * s1)), some (.int l2), some (.ref (15 + 12 * s1 + 2 * p5x)), some (.int l4), some (.int l5), none] [] I J k = if (I (15 + 12 * s1 + 2 * p5x) 4) ≤ l5 then zd S 66 75 [some (.ref 65), some (.ref (7 + 12 * s1)), some (.int l2), some (.ref (15 + 12 * s1 + 2 * p5x)), some (.int l4), some (.int l5), none] [] I J k else zd S 66 42 [some (.ref 65), some (.ref (7 + 12 * s1)), some (.int l2), some (.ref (15 + 12 * s1 + 2 * p5x)), some (.int l4), some (.int l5), none] [] I J k := by
  refine (tt_fk rfl rfl).trans ?_
  refine (tt_il rfl).trans ?_
  refine (tt_f rfl).trans ?_
  refine (tt_al rfl).trans ?_
  refine (tt_f rfl).trans ?_
  refine (tt_gi (shP hs1 hp5x) rfl).trans ?_
  refine (tt_f rfl).trans ?_
  exact tt_f2 (p := fun x y => y ≤ x) inferInstance rfl
theorem B66_42 {l2 : Int32} {l4 : Int32} {l5 : Int32} {s1 : Nat} {p5x : Nat} {I1 : zI} {J2 : zJ} (hb : Nat.ble k.1 (mBu 66).1 = true ∧ Nat.ble k.2 (mBu 66).2 = true) (hs1 : s1 < 4) (hp5x : p5x < 2) (hq : zq S 84 [.ref 70, .int (I (15 + 12 * s1 + 2 * p5x) 1), .int ((I (15 + 12 * s1 + 2 * p5x) 2) + l5), .int (I (15 + 12 * s1 + 2 * p5x) 3), .int (l4 + 80)] I J none I1 J2) : zd S 66 42 [some (.ref 65), some (.ref (7 + 12 * s1)), some (.int l2), some (.ref (15 + 12 * s1 + 2 * p5x)), some (.int l4), some (.int l5), none] [] I J k = zd S 66 69 [some (.ref 65), some (.ref (7 + 12 * s1)), some (.int l2), some (.ref (15 + 12 * s1 + 2 * p5x)), some (.int l4), some (.int l5), none] [] I1 J2 k := by
  refine (tt_f rfl).trans ?_
  refine (tt_al rfl).trans ?_
  refine (tt_f rfl).trans ?_
  refine (tt_gr rfl rfl).trans ?_
  refine (tt_f rfl).trans ?_
  refine (tt_al rfl).trans ?_
  refine (tt_f rfl).trans ?_
  refine (tt_gi (shP hs1 hp5x) rfl).trans ?_
  refine (tt_f rfl).trans ?_
  refine (tt_al rfl).trans ?_
  refine (tt_f rfl).trans ?_
  refine (tt_gi (shP hs1 hp5x) rfl).trans ?_
  refine (tt_f rfl).trans ?_
  refine (tt_il rfl).trans ?_
  refine (tt_f rfl).trans ?_
  refine tt_bi.trans ?_
  refine (tt_f rfl).trans ?_
  refine (tt_al rfl).trans ?_
  refine (tt_f rfl).trans ?_
  refine (tt_gi (shP hs1 hp5x) rfl).trans ?_
  refine (tt_f rfl).trans ?_
  refine (tt_il rfl).trans ?_
  refine (tt_f rfl).trans ?_
  refine tt_c.trans ?_
  refine (tt_f rfl).trans ?_
  refine tt_bi.trans ?_
  exact tt_cv (As := [.int (I (15 + 12 * s1 + 2 * p5x) 1), .int ((I (15 + 12 * s1 + 2 * p5x) 2) + l5), .int (I (15 + 12 * s1 + 2 * p5x) 3), .int (l4 + 80)]) rfl hb.1 hb.2 rfl rfl rfl rfl rfl hq
theorem B66_69 {l2 : Int32} {l4 : Int32} {l5 : Int32} {s1 : Nat} {p5x : Nat} (hs1 : s1 < 4) (hp5x : p5x < 2) : zd S 66 69 [some (.ref 65), some (.ref (7 + 12 * s1)), some (.int l2), some (.ref (15 + 12 * s1 + 2 * p5x)), some (.int l4), some (.int l5), none] [] I J k = zd S 66 33 [some (.ref 65), some (.ref (7 + 12 * s1)), some (.int l2), some (.ref (15 + 12 * s1 + 2 * p5x)), some (.int l4), some (.int (l5 + 1)), none] [] I J k := by
  refine (tt_f rfl).trans ?_
  refine (tt_in rfl rfl).trans ?_
  refine (tt_f rfl).trans ?_
  refine tt_go.trans ?_
  rfl
theorem B66_75 {l2 : Int32} {l4 : Int32} {l5 : Int32} {s1 : Nat} {p5x : Nat} (hs1 : s1 < 4) (hp5x : p5x < 2) : zd S 66 75 [some (.ref 65), some (.ref (7 + 12 * s1)), some (.int l2), some (.ref (15 + 12 * s1 + 2 * p5x)), some (.int l4), some (.int l5), none] [] I J k = zd S 66 78 [some (.ref 65), some (.ref (7 + 12 * s1)), some (.int l2), some (.ref (15 + 12 * s1 + 2 * p5x)), some (.int l4), some (.int 0), none] [] I J k := by
  refine (tt_f rfl).trans ?_
  refine tt_c.trans ?_
  refine (tt_f rfl).trans ?_
  refine (tt_is rfl rfl).trans ?_
  rfl
theorem B66_78 {l2 : Int32} {l4 : Int32} {l5 : Int32} {o6 : Option Value} {s1 : Nat} {p5x : Nat} (hs1 : s1 < 4) (hp5x : p5x < 2) : zd S 66 78 [some (.ref 65), some (.ref (7 + 12 * s1)), some (.int l2), some (.ref (15 + 12 * s1 + 2 * p5x)), some (.int l4), some (.int l5), o6] [] I J k = if (I (7 + 12 * s1) 12) ≤ l5 then zd S 66 141 [some (.ref 65), some (.ref (7 + 12 * s1)), some (.int l2), some (.ref (15 + 12 * s1 + 2 * p5x)), some (.int l4), some (.int l5), none] [] I J k else zd S 66 87 [some (.ref 65), some (.ref (7 + 12 * s1)), some (.int l2), some (.ref (15 + 12 * s1 + 2 * p5x)), some (.int l4), some (.int l5), none] [] I J k := by
  refine (tt_fk rfl rfl).trans ?_
  refine (tt_il rfl).trans ?_
  refine (tt_f rfl).trans ?_
  refine (tt_al rfl).trans ?_
  refine (tt_f rfl).trans ?_
  refine (tt_gi (shS hs1) rfl).trans ?_
  refine (tt_f rfl).trans ?_
  exact tt_f2 (p := fun x y => y ≤ x) inferInstance rfl
theorem B66_87 {l2 : Int32} {l4 : Int32} {l5 : Int32} {s1 : Nat} {p5x : Nat} (hs1 : s1 < 4) (hp5x : p5x < 2) : zd S 66 87 [some (.ref 65), some (.ref (7 + 12 * s1)), some (.int l2), some (.ref (15 + 12 * s1 + 2 * p5x)), some (.int l4), some (.int l5), none] [] I J k = zd S 66 90 [some (.ref 65), some (.ref (7 + 12 * s1)), some (.int l2), some (.ref (15 + 12 * s1 + 2 * p5x)), some (.int l4), some (.int l5), some (.int 1)] [] I J k := by
  refine (tt_f rfl).trans ?_
  refine tt_c.trans ?_
  refine (tt_f rfl).trans ?_
  refine (tt_is rfl rfl).trans ?_
  rfl
theorem B66_90 {l2 : Int32} {l4 : Int32} {l5 : Int32} {l6 : Int32} {s1 : Nat} {p5x : Nat} (hs1 : s1 < 4) (hp5x : p5x < 2) : zd S 66 90 [some (.ref 65), some (.ref (7 + 12 * s1)), some (.int l2), some (.ref (15 + 12 * s1 + 2 * p5x)), some (.int l4), some (.int l5), some (.int l6)] [] I J k = if (I (7 + 12 * s1) 13) < l6 then zd S 66 135 [some (.ref 65), some (.ref (7 + 12 * s1)), some (.int l2), some (.ref (15 + 12 * s1 + 2 * p5x)), some (.int l4), some (.int l5), some (.int l6)] [] I J k else zd S 66 99 [some (.ref 65), some (.ref (7 + 12 * s1)), some (.int l2), some (.ref (15 + 12 * s1 + 2 * p5x)), some (.int l4), some (.int l5), some (.int l6)] [] I J k := by
  refine (tt_fk rfl rfl).trans ?_
  refine (tt_il rfl).trans ?_
  refine (tt_f rfl).trans ?_
  refine (tt_al rfl).trans ?_
  refine (tt_f rfl).trans ?_
  refine (tt_gi (shS hs1) rfl).trans ?_
  refine (tt_f rfl).trans ?_
  exact tt_f2 (p := fun x y => y < x) inferInstance rfl
theorem B66_99 {l2 : Int32} {l4 : Int32} {l5 : Int32} {l6 : Int32} {s1 : Nat} {p5x : Nat} {I1 : zI} {J2 : zJ} (hb : Nat.ble k.1 (mBu 66).1 = true ∧ Nat.ble k.2 (mBu 66).2 = true) (hs1 : s1 < 4) (hp5x : p5x < 2) (hq : zq S 84 [.ref 70, .int (I (15 + 12 * s1 + 2 * p5x) 1), .int ((I (15 + 12 * s1 + 2 * p5x) 2) + l5), .int ((I (15 + 12 * s1 + 2 * p5x) 3) + l6), .int (l4 + 81)] I J none I1 J2) : zd S 66 99 [some (.ref 65), some (.ref (7 + 12 * s1)), some (.int l2), some (.ref (15 + 12 * s1 + 2 * p5x)), some (.int l4), some (.int l5), some (.int l6)] [] I J k = zd S 66 129 [some (.ref 65), some (.ref (7 + 12 * s1)), some (.int l2), some (.ref (15 + 12 * s1 + 2 * p5x)), some (.int l4), some (.int l5), some (.int l6)] [] I1 J2 k := by
  refine (tt_f rfl).trans ?_
  refine (tt_al rfl).trans ?_
  refine (tt_f rfl).trans ?_
  refine (tt_gr rfl rfl).trans ?_
  refine (tt_f rfl).trans ?_
  refine (tt_al rfl).trans ?_
  refine (tt_f rfl).trans ?_
  refine (tt_gi (shP hs1 hp5x) rfl).trans ?_
  refine (tt_f rfl).trans ?_
  refine (tt_al rfl).trans ?_
  refine (tt_f rfl).trans ?_
  refine (tt_gi (shP hs1 hp5x) rfl).trans ?_
  refine (tt_f rfl).trans ?_
  refine (tt_il rfl).trans ?_
  refine (tt_f rfl).trans ?_
  refine tt_bi.trans ?_
  refine (tt_f rfl).trans ?_
  refine (tt_al rfl).trans ?_
  refine (tt_f rfl).trans ?_
  refine (tt_gi (shP hs1 hp5x) rfl).trans ?_
  refine (tt_f rfl).trans ?_
  refine (tt_il rfl).trans ?_
  refine (tt_f rfl).trans ?_
  refine tt_bi.trans ?_
  refine (tt_f rfl).trans ?_
  refine (tt_il rfl).trans ?_
  refine (tt_f rfl).trans ?_
  refine tt_c.trans ?_
  refine (tt_f rfl).trans ?_
  refine tt_bi.trans ?_
  exact tt_cv (As := [.int (I (15 + 12 * s1 + 2 * p5x) 1), .int ((I (15 + 12 * s1 + 2 * p5x) 2) + l5), .int ((I (15 + 12 * s1 + 2 * p5x) 3) + l6), .int (l4 + 81)]) rfl hb.1 hb.2 rfl rfl rfl rfl rfl hq
theorem B66_129 {l2 : Int32} {l4 : Int32} {l5 : Int32} {l6 : Int32} {s1 : Nat} {p5x : Nat} (hs1 : s1 < 4) (hp5x : p5x < 2) : zd S 66 129 [some (.ref 65), some (.ref (7 + 12 * s1)), some (.int l2), some (.ref (15 + 12 * s1 + 2 * p5x)), some (.int l4), some (.int l5), some (.int l6)] [] I J k = zd S 66 90 [some (.ref 65), some (.ref (7 + 12 * s1)), some (.int l2), some (.ref (15 + 12 * s1 + 2 * p5x)), some (.int l4), some (.int l5), some (.int (l6 + 1))] [] I J k := by
  refine (tt_f rfl).trans ?_
  refine (tt_in rfl rfl).trans ?_
  refine (tt_f rfl).trans ?_
  refine tt_go.trans ?_
  rfl
theorem B66_135 {l2 : Int32} {l4 : Int32} {l5 : Int32} {l6 : Int32} {s1 : Nat} {p5x : Nat} (hs1 : s1 < 4) (hp5x : p5x < 2) : zd S 66 135 [some (.ref 65), some (.ref (7 + 12 * s1)), some (.int l2), some (.ref (15 + 12 * s1 + 2 * p5x)), some (.int l4), some (.int l5), some (.int l6)] [] I J k = zd S 66 78 [some (.ref 65), some (.ref (7 + 12 * s1)), some (.int l2), some (.ref (15 + 12 * s1 + 2 * p5x)), some (.int l4), some (.int (l5 + 1)), some (.int l6)] [] I J k := by
  refine (tt_f rfl).trans ?_
  refine (tt_in rfl rfl).trans ?_
  refine (tt_f rfl).trans ?_
  refine tt_go.trans ?_
  rfl
theorem B66_141 {l2 : Int32} {l4 : Int32} {l5 : Int32} {s1 : Nat} {p5x : Nat} {I1 : zI} {J2 : zJ} (hb : Nat.ble k.1 (mBu 66).1 = true ∧ Nat.ble k.2 (mBu 66).2 = true) (hs1 : s1 < 4) (hp5x : p5x < 2) (hq : zq S 70 [.ref 65, .ref (15 + 12 * s1 + 2 * p5x), .int l4, .int (I (7 + 12 * s1) 12), .int (I (7 + 12 * s1) 13)] I J none I1 J2) : zd S 66 141 [some (.ref 65), some (.ref (7 + 12 * s1)), some (.int l2), some (.ref (15 + 12 * s1 + 2 * p5x)), some (.int l4), some (.int l5), none] [] I J k = zd S 66 156 [some (.ref 65), some (.ref (7 + 12 * s1)), some (.int l2), some (.ref (15 + 12 * s1 + 2 * p5x)), some (.int l4), some (.int l5), none] [] I1 J2 k := by
  refine (tt_f rfl).trans ?_
  refine (tt_al rfl).trans ?_
  refine (tt_f rfl).trans ?_
  refine (tt_al rfl).trans ?_
  refine (tt_f rfl).trans ?_
  refine (tt_il rfl).trans ?_
  refine (tt_f rfl).trans ?_
  refine (tt_al rfl).trans ?_
  refine (tt_f rfl).trans ?_
  refine (tt_gi (shS hs1) rfl).trans ?_
  refine (tt_f rfl).trans ?_
  refine (tt_al rfl).trans ?_
  refine (tt_f rfl).trans ?_
  refine (tt_gi (shS hs1) rfl).trans ?_
  exact tt_cv (As := [.ref (15 + 12 * s1 + 2 * p5x), .int l4, .int (I (7 + 12 * s1) 12), .int (I (7 + 12 * s1) 13)]) rfl hb.1 hb.2 rfl rfl rfl rfl rfl hq
theorem B66_156 {l2 : Int32} {l4 : Int32} {l5 : Int32} {s1 : Nat} {p5x : Nat} (hs1 : s1 < 4) (hp5x : p5x < 2) : zd S 66 156 [some (.ref 65), some (.ref (7 + 12 * s1)), some (.int l2), some (.ref (15 + 12 * s1 + 2 * p5x)), some (.int l4), some (.int l5), none] [] I J k = if l2 ≤ 0 then zd S 66 198 [some (.ref 65), some (.ref (7 + 12 * s1)), some (.int l2), some (.ref (15 + 12 * s1 + 2 * p5x)), some (.int l4), some (.int l5), none] [] I J k else zd S 66 160 [some (.ref 65), some (.ref (7 + 12 * s1)), some (.int l2), some (.ref (15 + 12 * s1 + 2 * p5x)), some (.int l4), some (.int l5), none] [] I J k := by
  refine (tt_f rfl).trans ?_
  refine (tt_il rfl).trans ?_
  refine (tt_f rfl).trans ?_
  exact tt_f1 (p := fun x => x ≤ 0) inferInstance rfl
theorem B66_160 {l2 : Int32} {l4 : Int32} {l5 : Int32} {s1 : Nat} {p5x : Nat} {I1 : zI} {J2 : zJ} (hb : Nat.ble k.1 (mBu 66).1 = true ∧ Nat.ble k.2 (mBu 66).2 = true) (hs1 : s1 < 4) (hp5x : p5x < 2) (hq : zq S 84 [.ref 70, .int (I (15 + 12 * s1 + 2 * p5x) 1), .int (((I (15 + 12 * s1 + 2 * p5x) 2) + (I (15 + 12 * s1 + 2 * p5x) 4)) - 1), .int (((I (15 + 12 * s1 + 2 * p5x) 3) + (I (15 + 12 * s1 + 2 * p5x) 5)) - 1), .int (l4 + 82)] I J none I1 J2) : zd S 66 160 [some (.ref 65), some (.ref (7 + 12 * s1)), some (.int l2), some (.ref (15 + 12 * s1 + 2 * p5x)), some (.int l4), some (.int l5), none] [] I J k = zd S 66 198 [some (.ref 65), some (.ref (7 + 12 * s1)), some (.int l2), some (.ref (15 + 12 * s1 + 2 * p5x)), some (.int l4), some (.int l5), none] [] I1 J2 k := by
  refine (tt_f rfl).trans ?_
  refine (tt_al rfl).trans ?_
  refine (tt_f rfl).trans ?_
  refine (tt_gr rfl rfl).trans ?_
  refine (tt_f rfl).trans ?_
  refine (tt_al rfl).trans ?_
  refine (tt_f rfl).trans ?_
  refine (tt_gi (shP hs1 hp5x) rfl).trans ?_
  refine (tt_f rfl).trans ?_
  refine (tt_al rfl).trans ?_
  refine (tt_f rfl).trans ?_
  refine (tt_gi (shP hs1 hp5x) rfl).trans ?_
  refine (tt_f rfl).trans ?_
  refine (tt_al rfl).trans ?_
  refine (tt_f rfl).trans ?_
  refine (tt_gi (shP hs1 hp5x) rfl).trans ?_
  refine (tt_f rfl).trans ?_
  refine tt_bi.trans ?_
  refine (tt_f rfl).trans ?_
  refine tt_c.trans ?_
  refine (tt_f rfl).trans ?_
  refine tt_bi.trans ?_
  refine (tt_f rfl).trans ?_
  refine (tt_al rfl).trans ?_
  refine (tt_f rfl).trans ?_
  refine (tt_gi (shP hs1 hp5x) rfl).trans ?_
  refine (tt_f rfl).trans ?_
  refine (tt_al rfl).trans ?_
  refine (tt_f rfl).trans ?_
  refine (tt_gi (shP hs1 hp5x) rfl).trans ?_
  refine (tt_f rfl).trans ?_
  refine tt_bi.trans ?_
  refine (tt_f rfl).trans ?_
  refine tt_c.trans ?_
  refine (tt_f rfl).trans ?_
  refine tt_bi.trans ?_
  refine (tt_f rfl).trans ?_
  refine (tt_il rfl).trans ?_
  refine (tt_f rfl).trans ?_
  refine tt_c.trans ?_
  refine (tt_f rfl).trans ?_
  refine tt_bi.trans ?_
  exact tt_cv (As := [.int (I (15 + 12 * s1 + 2 * p5x) 1), .int (((I (15 + 12 * s1 + 2 * p5x) 2) + (I (15 + 12 * s1 + 2 * p5x) 4)) - 1), .int (((I (15 + 12 * s1 + 2 * p5x) 3) + (I (15 + 12 * s1 + 2 * p5x) 5)) - 1), .int (l4 + 82)]) rfl hb.1 hb.2 rfl rfl rfl rfl rfl hq
theorem B66_198 {l2 : Int32} {l4 : Int32} {l5 : Int32} {s1 : Nat} {p5x : Nat} (hs1 : s1 < 4) (hp5x : p5x < 2) : zd S 66 198 [some (.ref 65), some (.ref (7 + 12 * s1)), some (.int l2), some (.ref (15 + 12 * s1 + 2 * p5x)), some (.int l4), some (.int l5), none] [] I J k = some (none, mk I J, k) := by
  exact tt_rv rfl
/-! 67: Planner.putSecondPart -/
theorem B67_0 {s1 : Nat} {p5x : Nat} {I3 : zI} {J4 : zJ} (hb : Nat.ble k.1 (mBu 67).1 = true ∧ Nat.ble k.2 (mBu 67).2 = true) (hs1 : s1 < 4) (hp5x : p5x < 2) (hi1 : zin 1 2 = true) (ha2 : ([15 + 12 * s1, 17 + 12 * s1] : List Nat)[(1 : Int32).toNatClampNeg]? = some (15 + 12 * s1 + 2 * p5x)) (hq : zq S 68 [.ref 65, .ref (7 + 12 * s1), .ref (15 + 12 * s1 + 2 * p5x), .int 0] I J none I3 J4) : zd S 67 0 [some (.ref 65), some (.ref (7 + 12 * s1)), none, none] [] I J k = zd S 67 24 [some (.ref 65), some (.ref (7 + 12 * s1)), some (.ref (15 + 12 * s1 + 2 * p5x)), some (.int (100 * ((I (7 + 12 * s1) 0) + 1)))] [] I3 J4 k := by
  refine (tt_f rfl).trans ?_
  refine (tt_al rfl).trans ?_
  refine (tt_f rfl).trans ?_
  refine (tt_gr (shS hs1) rfl).trans ?_
  refine (tt_f rfl).trans ?_
  refine tt_c.trans ?_
  refine (tt_f rfl).trans ?_
  refine (tt_gq (shS7 hs1) hi1 ha2).trans ?_
  refine (tt_f rfl).trans ?_
  refine (tt_as rfl rfl).trans ?_
  refine (tt_f rfl).trans ?_
  refine tt_c.trans ?_
  refine (tt_f rfl).trans ?_
  refine (tt_al rfl).trans ?_
  refine (tt_f rfl).trans ?_
  refine (tt_gi (shS hs1) rfl).trans ?_
  refine (tt_f rfl).trans ?_
  refine tt_c.trans ?_
  refine (tt_f rfl).trans ?_
  refine tt_bi.trans ?_
  refine (tt_f rfl).trans ?_
  refine tt_bi.trans ?_
  refine (tt_f rfl).trans ?_
  refine (tt_is rfl rfl).trans ?_
  refine (tt_f rfl).trans ?_
  refine (tt_al rfl).trans ?_
  refine (tt_f rfl).trans ?_
  refine (tt_al rfl).trans ?_
  refine (tt_f rfl).trans ?_
  refine (tt_al rfl).trans ?_
  refine (tt_f rfl).trans ?_
  refine tt_c.trans ?_
  exact tt_cv (As := [.ref (7 + 12 * s1), .ref (15 + 12 * s1 + 2 * p5x), .int 0]) rfl hb.1 hb.2 rfl rfl rfl rfl rfl hq
theorem B67_24 {l3 : Int32} {s1 : Nat} {p5x : Nat} {I1 : zI} {J2 : zJ} (hb : Nat.ble k.1 (mBu 67).1 = true ∧ Nat.ble k.2 (mBu 67).2 = true) (hs1 : s1 < 4) (hp5x : p5x < 2) (hq : zq S 69 [.ref 65, .ref (15 + 12 * s1 + 2 * p5x)] I J none I1 J2) : zd S 67 24 [some (.ref 65), some (.ref (7 + 12 * s1)), some (.ref (15 + 12 * s1 + 2 * p5x)), some (.int l3)] [] I J k = zd S 67 29 [some (.ref 65), some (.ref (7 + 12 * s1)), some (.ref (15 + 12 * s1 + 2 * p5x)), some (.int l3)] [] I1 J2 k := by
  refine (tt_f rfl).trans ?_
  refine (tt_al rfl).trans ?_
  refine (tt_f rfl).trans ?_
  refine (tt_al rfl).trans ?_
  exact tt_cv (As := [.ref (15 + 12 * s1 + 2 * p5x)]) rfl hb.1 hb.2 rfl rfl rfl rfl rfl hq
theorem B67_29 {l3 : Int32} {s1 : Nat} {p5x : Nat} {I1 : zI} {J2 : zJ} (hb : Nat.ble k.1 (mBu 67).1 = true ∧ Nat.ble k.2 (mBu 67).2 = true) (hs1 : s1 < 4) (hp5x : p5x < 2) (hq : zq S 84 [.ref 70, .int (I (15 + 12 * s1 + 2 * p5x) 1), .int (I (15 + 12 * s1 + 2 * p5x) 2), .int (I (15 + 12 * s1 + 2 * p5x) 3), .int (l3 + 83)] I J none I1 J2) : zd S 67 29 [some (.ref 65), some (.ref (7 + 12 * s1)), some (.ref (15 + 12 * s1 + 2 * p5x)), some (.int l3)] [] I J k = zd S 67 52 [some (.ref 65), some (.ref (7 + 12 * s1)), some (.ref (15 + 12 * s1 + 2 * p5x)), some (.int l3)] [] I1 J2 k := by
  refine (tt_f rfl).trans ?_
  refine (tt_al rfl).trans ?_
  refine (tt_f rfl).trans ?_
  refine (tt_gr rfl rfl).trans ?_
  refine (tt_f rfl).trans ?_
  refine (tt_al rfl).trans ?_
  refine (tt_f rfl).trans ?_
  refine (tt_gi (shP hs1 hp5x) rfl).trans ?_
  refine (tt_f rfl).trans ?_
  refine (tt_al rfl).trans ?_
  refine (tt_f rfl).trans ?_
  refine (tt_gi (shP hs1 hp5x) rfl).trans ?_
  refine (tt_f rfl).trans ?_
  refine (tt_al rfl).trans ?_
  refine (tt_f rfl).trans ?_
  refine (tt_gi (shP hs1 hp5x) rfl).trans ?_
  refine (tt_f rfl).trans ?_
  refine (tt_il rfl).trans ?_
  refine (tt_f rfl).trans ?_
  refine tt_c.trans ?_
  refine (tt_f rfl).trans ?_
  refine tt_bi.trans ?_
  exact tt_cv (As := [.int (I (15 + 12 * s1 + 2 * p5x) 1), .int (I (15 + 12 * s1 + 2 * p5x) 2), .int (I (15 + 12 * s1 + 2 * p5x) 3), .int (l3 + 83)]) rfl hb.1 hb.2 rfl rfl rfl rfl rfl hq
theorem B67_52 {l3 : Int32} {s1 : Nat} {p5x : Nat} {I1 : zI} {J2 : zJ} (hb : Nat.ble k.1 (mBu 67).1 = true ∧ Nat.ble k.2 (mBu 67).2 = true) (hs1 : s1 < 4) (hp5x : p5x < 2) (hq : zq S 70 [.ref 65, .ref (15 + 12 * s1 + 2 * p5x), .int l3, .int 0, .int 0] I J none I1 J2) : zd S 67 52 [some (.ref 65), some (.ref (7 + 12 * s1)), some (.ref (15 + 12 * s1 + 2 * p5x)), some (.int l3)] [] I J k = zd S 67 60 [some (.ref 65), some (.ref (7 + 12 * s1)), some (.ref (15 + 12 * s1 + 2 * p5x)), some (.int l3)] [] I1 J2 k := by
  refine (tt_f rfl).trans ?_
  refine (tt_al rfl).trans ?_
  refine (tt_f rfl).trans ?_
  refine (tt_al rfl).trans ?_
  refine (tt_f rfl).trans ?_
  refine (tt_il rfl).trans ?_
  refine (tt_f rfl).trans ?_
  refine tt_c.trans ?_
  refine (tt_f rfl).trans ?_
  refine tt_c.trans ?_
  exact tt_cv (As := [.ref (15 + 12 * s1 + 2 * p5x), .int l3, .int 0, .int 0]) rfl hb.1 hb.2 rfl rfl rfl rfl rfl hq
theorem B67_60 {l3 : Int32} {s1 : Nat} {p5x : Nat} (hs1 : s1 < 4) (hp5x : p5x < 2) : zd S 67 60 [some (.ref 65), some (.ref (7 + 12 * s1)), some (.ref (15 + 12 * s1 + 2 * p5x)), some (.int l3)] [] I J k = some (none, mk I J, k) := by
  exact tt_rv rfl
/-! 68: Planner.fillPart -/
theorem B68_0 {l3 : Int32} {s1 : Nat} {s2 : Nat} {p2 : Nat} {v1 : Int32} {I2 : zI} {J3 : zJ} (hb : Nat.ble k.1 (mBu 68).1 = true ∧ Nat.ble k.2 (mBu 68).2 = true) (hs1 : s1 < 4) (hs2 : s2 < 4) (hp2 : p2 < 2) (hq : zq S 34 [.ref 66, .ref (7 + 12 * s1), .int (I (15 + 12 * s2 + 2 * p2) 6), .int (I (15 + 12 * s2 + 2 * p2) 4), .int ((I (15 + 12 * s2 + 2 * p2) 5) - 1), .int l3] I J (some (.int v1)) I2 J3) : zd S 68 0 [some (.ref 65), some (.ref (7 + 12 * s1)), some (.ref (15 + 12 * s2 + 2 * p2)), some (.int l3)] [] I J k = zd S 68 23 [some (.ref 65), some (.ref (7 + 12 * s1)), some (.ref (15 + 12 * s2 + 2 * p2)), some (.int l3)] [.int v1] I2 J3 k := by
  refine (tt_f rfl).trans ?_
  refine (tt_al rfl).trans ?_
  refine (tt_f rfl).trans ?_
  refine (tt_gr rfl rfl).trans ?_
  refine (tt_f rfl).trans ?_
  refine (tt_al rfl).trans ?_
  refine (tt_f rfl).trans ?_
  refine (tt_al rfl).trans ?_
  refine (tt_f rfl).trans ?_
  refine (tt_gi (shP hs2 hp2) rfl).trans ?_
  refine (tt_f rfl).trans ?_
  refine (tt_al rfl).trans ?_
  refine (tt_f rfl).trans ?_
  refine (tt_gi (shP hs2 hp2) rfl).trans ?_
  refine (tt_f rfl).trans ?_
  refine (tt_al rfl).trans ?_
  refine (tt_f rfl).trans ?_
  refine (tt_gi (shP hs2 hp2) rfl).trans ?_
  refine (tt_f rfl).trans ?_
  refine tt_c.trans ?_
  refine (tt_f rfl).trans ?_
  refine tt_bi.trans ?_
  refine (tt_f rfl).trans ?_
  refine (tt_il rfl).trans ?_
  exact tt_cv (As := [.ref (7 + 12 * s1), .int (I (15 + 12 * s2 + 2 * p2) 6), .int (I (15 + 12 * s2 + 2 * p2) 4), .int ((I (15 + 12 * s2 + 2 * p2) 5) - 1), .int l3]) rfl hb.1 hb.2 rfl rfl rfl rfl rfl hq
theorem B68_23 {l3 : Int32} {t0 : Int32} {s1 : Nat} {s2 : Nat} {p2 : Nat} (hs1 : s1 < 4) (hs2 : s2 < 4) (hp2 : p2 < 2) : zd S 68 23 [some (.ref 65), some (.ref (7 + 12 * s1)), some (.ref (15 + 12 * s2 + 2 * p2)), some (.int l3)] [.int t0] I J k = if t0 = 0 then zd S 68 54 [some (.ref 65), some (.ref (7 + 12 * s1)), some (.ref (15 + 12 * s2 + 2 * p2)), some (.int l3)] [] I J k else zd S 68 26 [some (.ref 65), some (.ref (7 + 12 * s1)), some (.ref (15 + 12 * s2 + 2 * p2)), some (.int l3)] [] I J k := by
  refine (tt_f rfl).trans ?_
  exact tt_f1 (p := fun x => x = 0) inferInstance rfl
theorem B68_26 {l3 : Int32} {s1 : Nat} {s2 : Nat} {p2 : Nat} {v1 : Int64} {I2 : zI} {J3 : zJ} (hb : Nat.ble k.1 (mBu 68).1 = true ∧ Nat.ble k.2 (mBu 68).2 = true) (hs1 : s1 < 4) (hs2 : s2 < 4) (hp2 : p2 < 2) (hq : zq S 93 [.ref (7 + 12 * s1)] I J (some (.long v1)) I2 J3) : zd S 68 26 [some (.ref 65), some (.ref (7 + 12 * s1)), some (.ref (15 + 12 * s2 + 2 * p2)), some (.int l3)] [] I J k = zd S 68 47 [some (.ref 65), some (.ref (7 + 12 * s1)), some (.ref (15 + 12 * s2 + 2 * p2)), some (.int l3)] [.long v1, .int ((I (15 + 12 * s2 + 2 * p2) 6) + (I (15 + 12 * s2 + 2 * p2) 7)), .int (I (15 + 12 * s2 + 2 * p2) 6), .ref 66] I2 J3 k := by
  refine (tt_f rfl).trans ?_
  refine (tt_al rfl).trans ?_
  refine (tt_f rfl).trans ?_
  refine (tt_gr rfl rfl).trans ?_
  refine (tt_f rfl).trans ?_
  refine (tt_al rfl).trans ?_
  refine (tt_f rfl).trans ?_
  refine (tt_gi (shP hs2 hp2) rfl).trans ?_
  refine (tt_f rfl).trans ?_
  refine (tt_al rfl).trans ?_
  refine (tt_f rfl).trans ?_
  refine (tt_gi (shP hs2 hp2) rfl).trans ?_
  refine (tt_f rfl).trans ?_
  refine (tt_al rfl).trans ?_
  refine (tt_f rfl).trans ?_
  refine (tt_gi (shP hs2 hp2) rfl).trans ?_
  refine (tt_f rfl).trans ?_
  refine tt_bi.trans ?_
  refine (tt_f rfl).trans ?_
  refine (tt_al rfl).trans ?_
  exact tt_cv (As := []) rfl hb.1 hb.2 rfl rfl rfl rfl (shS hs1) hq
theorem B68_47 {l3 : Int32} {t1 : Int32} {t2 : Int32} {t3 : Int64} {s1 : Nat} {s2 : Nat} {p2 : Nat} {I1 : zI} {J2 : zJ} (hb : Nat.ble k.1 (mBu 68).1 = true ∧ Nat.ble k.2 (mBu 68).2 = true) (hs1 : s1 < 4) (hs2 : s2 < 4) (hp2 : p2 < 2) (hq : zq S 36 [.ref 66, .int t1, .int t2, .long t3, .ref (16 + 12 * s2 + 2 * p2)] I J none I1 J2) : zd S 68 47 [some (.ref 65), some (.ref (7 + 12 * s1)), some (.ref (15 + 12 * s2 + 2 * p2)), some (.int l3)] [.long t3, .int t2, .int t1, .ref 66] I J k = zd S 68 54 [some (.ref 65), some (.ref (7 + 12 * s1)), some (.ref (15 + 12 * s2 + 2 * p2)), some (.int l3)] [] I1 J2 k := by
  refine (tt_f rfl).trans ?_
  refine (tt_al rfl).trans ?_
  refine (tt_f rfl).trans ?_
  refine (tt_gr (shP hs2 hp2) rfl).trans ?_
  exact tt_cv (As := [.int t1, .int t2, .long t3, .ref (16 + 12 * s2 + 2 * p2)]) rfl hb.1 hb.2 rfl rfl rfl rfl rfl hq
theorem B68_54 {l3 : Int32} {s1 : Nat} {s2 : Nat} {p2 : Nat} (hs1 : s1 < 4) (hs2 : s2 < 4) (hp2 : p2 < 2) : zd S 68 54 [some (.ref 65), some (.ref (7 + 12 * s1)), some (.ref (15 + 12 * s2 + 2 * p2)), some (.int l3)] [] I J k = some (none, mk I J, k) := by
  exact tt_rv rfl
/-! 69: Planner.putNothing -/
theorem B69_0 {s1 : Nat} {p1 : Nat} (hs1 : s1 < 4) (hp1 : p1 < 2) : zd S 69 0 [some (.ref 65), some (.ref (15 + 12 * s1 + 2 * p1)), none, none] [] I J k = zd S 69 2 [some (.ref 65), some (.ref (15 + 12 * s1 + 2 * p1)), some (.int 0), none] [] I J k := by
  refine (tt_f rfl).trans ?_
  refine tt_c.trans ?_
  refine (tt_f rfl).trans ?_
  refine (tt_is rfl rfl).trans ?_
  rfl
theorem B69_2 {l2 : Int32} {o3 : Option Value} {s1 : Nat} {p1 : Nat} (hs1 : s1 < 4) (hp1 : p1 < 2) : zd S 69 2 [some (.ref 65), some (.ref (15 + 12 * s1 + 2 * p1)), some (.int l2), o3] [] I J k = if (I (15 + 12 * s1 + 2 * p1) 4) ≤ l2 then zd S 69 57 [some (.ref 65), some (.ref (15 + 12 * s1 + 2 * p1)), some (.int l2), none] [] I J k else zd S 69 10 [some (.ref 65), some (.ref (15 + 12 * s1 + 2 * p1)), some (.int l2), none] [] I J k := by
  refine (tt_fk rfl rfl).trans ?_
  refine (tt_il rfl).trans ?_
  refine (tt_f rfl).trans ?_
  refine (tt_al rfl).trans ?_
  refine (tt_f rfl).trans ?_
  refine (tt_gi (shP hs1 hp1) rfl).trans ?_
  refine (tt_f rfl).trans ?_
  exact tt_f2 (p := fun x y => y ≤ x) inferInstance rfl
theorem B69_10 {l2 : Int32} {s1 : Nat} {p1 : Nat} (hs1 : s1 < 4) (hp1 : p1 < 2) : zd S 69 10 [some (.ref 65), some (.ref (15 + 12 * s1 + 2 * p1)), some (.int l2), none] [] I J k = zd S 69 12 [some (.ref 65), some (.ref (15 + 12 * s1 + 2 * p1)), some (.int l2), some (.int 0)] [] I J k := by
  refine (tt_f rfl).trans ?_
  refine tt_c.trans ?_
  refine (tt_f rfl).trans ?_
  refine (tt_is rfl rfl).trans ?_
  rfl
theorem B69_12 {l2 : Int32} {l3 : Int32} {s1 : Nat} {p1 : Nat} (hs1 : s1 < 4) (hp1 : p1 < 2) : zd S 69 12 [some (.ref 65), some (.ref (15 + 12 * s1 + 2 * p1)), some (.int l2), some (.int l3)] [] I J k = if (I (15 + 12 * s1 + 2 * p1) 5) ≤ l3 then zd S 69 51 [some (.ref 65), some (.ref (15 + 12 * s1 + 2 * p1)), some (.int l2), some (.int l3)] [] I J k else zd S 69 20 [some (.ref 65), some (.ref (15 + 12 * s1 + 2 * p1)), some (.int l2), some (.int l3)] [] I J k := by
  refine (tt_fk rfl rfl).trans ?_
  refine (tt_il rfl).trans ?_
  refine (tt_f rfl).trans ?_
  refine (tt_al rfl).trans ?_
  refine (tt_f rfl).trans ?_
  refine (tt_gi (shP hs1 hp1) rfl).trans ?_
  refine (tt_f rfl).trans ?_
  exact tt_f2 (p := fun x y => y ≤ x) inferInstance rfl
theorem B69_20 {l2 : Int32} {l3 : Int32} {s1 : Nat} {p1 : Nat} {I1 : zI} {J2 : zJ} (hb : Nat.ble k.1 (mBu 69).1 = true ∧ Nat.ble k.2 (mBu 69).2 = true) (hs1 : s1 < 4) (hp1 : p1 < 2) (hq : zq S 84 [.ref 70, .int (I (15 + 12 * s1 + 2 * p1) 1), .int ((I (15 + 12 * s1 + 2 * p1) 2) + l2), .int ((I (15 + 12 * s1 + 2 * p1) 3) + l3), .int 90] I J none I1 J2) : zd S 69 20 [some (.ref 65), some (.ref (15 + 12 * s1 + 2 * p1)), some (.int l2), some (.int l3)] [] I J k = zd S 69 45 [some (.ref 65), some (.ref (15 + 12 * s1 + 2 * p1)), some (.int l2), some (.int l3)] [] I1 J2 k := by
  refine (tt_f rfl).trans ?_
  refine (tt_al rfl).trans ?_
  refine (tt_f rfl).trans ?_
  refine (tt_gr rfl rfl).trans ?_
  refine (tt_f rfl).trans ?_
  refine (tt_al rfl).trans ?_
  refine (tt_f rfl).trans ?_
  refine (tt_gi (shP hs1 hp1) rfl).trans ?_
  refine (tt_f rfl).trans ?_
  refine (tt_al rfl).trans ?_
  refine (tt_f rfl).trans ?_
  refine (tt_gi (shP hs1 hp1) rfl).trans ?_
  refine (tt_f rfl).trans ?_
  refine (tt_il rfl).trans ?_
  refine (tt_f rfl).trans ?_
  refine tt_bi.trans ?_
  refine (tt_f rfl).trans ?_
  refine (tt_al rfl).trans ?_
  refine (tt_f rfl).trans ?_
  refine (tt_gi (shP hs1 hp1) rfl).trans ?_
  refine (tt_f rfl).trans ?_
  refine (tt_il rfl).trans ?_
  refine (tt_f rfl).trans ?_
  refine tt_bi.trans ?_
  refine (tt_f rfl).trans ?_
  refine tt_c.trans ?_
  exact tt_cv (As := [.int (I (15 + 12 * s1 + 2 * p1) 1), .int ((I (15 + 12 * s1 + 2 * p1) 2) + l2), .int ((I (15 + 12 * s1 + 2 * p1) 3) + l3), .int 90]) rfl hb.1 hb.2 rfl rfl rfl rfl rfl hq
theorem B69_45 {l2 : Int32} {l3 : Int32} {s1 : Nat} {p1 : Nat} (hs1 : s1 < 4) (hp1 : p1 < 2) : zd S 69 45 [some (.ref 65), some (.ref (15 + 12 * s1 + 2 * p1)), some (.int l2), some (.int l3)] [] I J k = zd S 69 12 [some (.ref 65), some (.ref (15 + 12 * s1 + 2 * p1)), some (.int l2), some (.int (l3 + 1))] [] I J k := by
  refine (tt_f rfl).trans ?_
  refine (tt_in rfl rfl).trans ?_
  refine (tt_f rfl).trans ?_
  refine tt_go.trans ?_
  rfl
theorem B69_51 {l2 : Int32} {l3 : Int32} {s1 : Nat} {p1 : Nat} (hs1 : s1 < 4) (hp1 : p1 < 2) : zd S 69 51 [some (.ref 65), some (.ref (15 + 12 * s1 + 2 * p1)), some (.int l2), some (.int l3)] [] I J k = zd S 69 2 [some (.ref 65), some (.ref (15 + 12 * s1 + 2 * p1)), some (.int (l2 + 1)), some (.int l3)] [] I J k := by
  refine (tt_f rfl).trans ?_
  refine (tt_in rfl rfl).trans ?_
  refine (tt_f rfl).trans ?_
  refine tt_go.trans ?_
  rfl
theorem B69_57 {l2 : Int32} {s1 : Nat} {p1 : Nat} (hs1 : s1 < 4) (hp1 : p1 < 2) : zd S 69 57 [some (.ref 65), some (.ref (15 + 12 * s1 + 2 * p1)), some (.int l2), none] [] I J k = some (none, mk I J, k) := by
  exact tt_rv rfl
/-! 70: Planner.putLines -/
theorem B70_0 {l2 : Int32} {l3 : Int32} {l4 : Int32} {s1 : Nat} {p1 : Nat} (hs1 : s1 < 4) (hp1 : p1 < 2) : zd S 70 0 [some (.ref 65), some (.ref (15 + 12 * s1 + 2 * p1)), some (.int l2), some (.int l3), some (.int l4), none, none, none, none] [] I J k = zd S 70 9 [some (.ref 65), some (.ref (15 + 12 * s1 + 2 * p1)), some (.int l2), some (.int l3), some (.int l4), some (.int (I (15 + 12 * s1 + 2 * p1) 6)), some (.int 0), none, none] [] I J k := by
  refine (tt_f rfl).trans ?_
  refine (tt_al rfl).trans ?_
  refine (tt_f rfl).trans ?_
  refine (tt_gi (shP hs1 hp1) rfl).trans ?_
  refine (tt_f rfl).trans ?_
  refine (tt_is rfl rfl).trans ?_
  refine (tt_f rfl).trans ?_
  refine tt_c.trans ?_
  refine (tt_f rfl).trans ?_
  refine (tt_is rfl rfl).trans ?_
  rfl
theorem B70_9 {l2 : Int32} {l3 : Int32} {l4 : Int32} {l5 : Int32} {l6 : Int32} {o7 : Option Value} {o8 : Option Value} {s1 : Nat} {p1 : Nat} (hs1 : s1 < 4) (hp1 : p1 < 2) : zd S 70 9 [some (.ref 65), some (.ref (15 + 12 * s1 + 2 * p1)), some (.int l2), some (.int l3), some (.int l4), some (.int l5), some (.int l6), o7, o8] [] I J k = if (I (15 + 12 * s1 + 2 * p1) 4) ≤ l6 then zd S 70 96 [some (.ref 65), some (.ref (15 + 12 * s1 + 2 * p1)), some (.int l2), some (.int l3), some (.int l4), some (.int l5), some (.int l6), none, none] [] I J k else zd S 70 18 [some (.ref 65), some (.ref (15 + 12 * s1 + 2 * p1)), some (.int l2), some (.int l3), some (.int l4), some (.int l5), some (.int l6), none, none] [] I J k := by
  refine (tt_fk rfl rfl).trans ?_
  refine (tt_il rfl).trans ?_
  refine (tt_f rfl).trans ?_
  refine (tt_al rfl).trans ?_
  refine (tt_f rfl).trans ?_
  refine (tt_gi (shP hs1 hp1) rfl).trans ?_
  refine (tt_f rfl).trans ?_
  exact tt_f2 (p := fun x y => y ≤ x) inferInstance rfl
theorem B70_18 {l2 : Int32} {l3 : Int32} {l4 : Int32} {l5 : Int32} {l6 : Int32} {s1 : Nat} {p1 : Nat} (hs1 : s1 < 4) (hp1 : p1 < 2) : zd S 70 18 [some (.ref 65), some (.ref (15 + 12 * s1 + 2 * p1)), some (.int l2), some (.int l3), some (.int l4), some (.int l5), some (.int l6), none, none] [] I J k = if l3 ≤ l6 then zd S 70 35 [some (.ref 65), some (.ref (15 + 12 * s1 + 2 * p1)), some (.int l2), some (.int l3), some (.int l4), some (.int l5), some (.int l6), none, none] [.int ((I (15 + 12 * s1 + 2 * p1) 3) + 1)] I J k else zd S 70 30 [some (.ref 65), some (.ref (15 + 12 * s1 + 2 * p1)), some (.int l2), some (.int l3), some (.int l4), some (.int l5), some (.int l6), none, none] [.int ((I (15 + 12 * s1 + 2 * p1) 3) + 1)] I J k := by
  refine (tt_f rfl).trans ?_
  refine (tt_al rfl).trans ?_
  refine (tt_f rfl).trans ?_
  refine (tt_gi (shP hs1 hp1) rfl).trans ?_
  refine (tt_f rfl).trans ?_
  refine tt_c.trans ?_
  refine (tt_f rfl).trans ?_
  refine tt_bi.trans ?_
  refine (tt_f rfl).trans ?_
  refine (tt_il rfl).trans ?_
  refine (tt_f rfl).trans ?_
  refine (tt_il rfl).trans ?_
  refine (tt_f rfl).trans ?_
  exact tt_f2 (p := fun x y => y ≤ x) inferInstance rfl
theorem B70_30 {l2 : Int32} {l3 : Int32} {l4 : Int32} {l5 : Int32} {l6 : Int32} {t0 : Int32} {s1 : Nat} {p1 : Nat} (hs1 : s1 < 4) (hp1 : p1 < 2) : zd S 70 30 [some (.ref 65), some (.ref (15 + 12 * s1 + 2 * p1)), some (.int l2), some (.int l3), some (.int l4), some (.int l5), some (.int l6), none, none] [.int t0] I J k = zd S 70 42 [some (.ref 65), some (.ref (15 + 12 * s1 + 2 * p1)), some (.int l2), some (.int l3), some (.int l4), some (.int l5), some (.int l6), some (.int (t0 + l4)), some (.int 0)] [] I J k := by
  refine (tt_f rfl).trans ?_
  refine (tt_il rfl).trans ?_
  refine (tt_f rfl).trans ?_
  refine tt_go.trans ?_
  refine (tt_fk rfl rfl).trans ?_
  refine tt_bi.trans ?_
  refine (tt_f rfl).trans ?_
  refine (tt_is rfl rfl).trans ?_
  refine (tt_f rfl).trans ?_
  refine tt_c.trans ?_
  refine (tt_f rfl).trans ?_
  refine (tt_is rfl rfl).trans ?_
  rfl
theorem B70_35 {l2 : Int32} {l3 : Int32} {l4 : Int32} {l5 : Int32} {l6 : Int32} {t0 : Int32} {s1 : Nat} {p1 : Nat} (hs1 : s1 < 4) (hp1 : p1 < 2) : zd S 70 35 [some (.ref 65), some (.ref (15 + 12 * s1 + 2 * p1)), some (.int l2), some (.int l3), some (.int l4), some (.int l5), some (.int l6), none, none] [.int t0] I J k = zd S 70 42 [some (.ref 65), some (.ref (15 + 12 * s1 + 2 * p1)), some (.int l2), some (.int l3), some (.int l4), some (.int l5), some (.int l6), some (.int (t0 + 0)), some (.int 0)] [] I J k := by
  refine (tt_f rfl).trans ?_
  refine tt_c.trans ?_
  refine (tt_fk rfl rfl).trans ?_
  refine tt_bi.trans ?_
  refine (tt_f rfl).trans ?_
  refine (tt_is rfl rfl).trans ?_
  refine (tt_f rfl).trans ?_
  refine tt_c.trans ?_
  refine (tt_f rfl).trans ?_
  refine (tt_is rfl rfl).trans ?_
  rfl
theorem B70_42 {l2 : Int32} {l3 : Int32} {l4 : Int32} {l5 : Int32} {l6 : Int32} {l7 : Int32} {l8 : Int32} {s1 : Nat} {p1 : Nat} (hs1 : s1 < 4) (hp1 : p1 < 2) (hi1 : zin l6 4 = true) : zd S 70 42 [some (.ref 65), some (.ref (15 + 12 * s1 + 2 * p1)), some (.int l2), some (.int l3), some (.int l4), some (.int l5), some (.int l6), some (.int l7), some (.int l8)] [] I J k = if (I (16 + 12 * s1 + 2 * p1) l6.toNatClampNeg) ≤ l8 then zd S 70 90 [some (.ref 65), some (.ref (15 + 12 * s1 + 2 * p1)), some (.int l2), some (.int l3), some (.int l4), some (.int l5), some (.int l6), some (.int l7), some (.int l8)] [] I J k else zd S 70 54 [some (.ref 65), some (.ref (15 + 12 * s1 + 2 * p1)), some (.int l2), some (.int l3), some (.int l4), some (.int l5), some (.int l6), some (.int l7), some (.int l8)] [] I J k := by
  refine (tt_fk rfl rfl).trans ?_
  refine (tt_il rfl).trans ?_
  refine (tt_f rfl).trans ?_
  refine (tt_al rfl).trans ?_
  refine (tt_f rfl).trans ?_
  refine (tt_gr (shP hs1 hp1) rfl).trans ?_
  refine (tt_f rfl).trans ?_
  refine (tt_il rfl).trans ?_
  refine (tt_f rfl).trans ?_
  refine (tt_ga (shPa hs1 hp1) rfl hi1).trans ?_
  refine (tt_f rfl).trans ?_
  exact tt_f2 (p := fun x y => y ≤ x) inferInstance rfl
theorem B70_54 {l2 : Int32} {l3 : Int32} {l4 : Int32} {l5 : Int32} {l6 : Int32} {l7 : Int32} {l8 : Int32} {s1 : Nat} {p1 : Nat} {I1 : zI} {J2 : zJ} (hb : Nat.ble k.1 (mBu 70).1 = true ∧ Nat.ble k.2 (mBu 70).2 = true) (hs1 : s1 < 4) (hp1 : p1 < 2) (hq : zq S 84 [.ref 70, .int (I (15 + 12 * s1 + 2 * p1) 1), .int ((I (15 + 12 * s1 + 2 * p1) 2) + l6), .int (l7 + l8), .int (l2 + l5)] I J none I1 J2) : zd S 70 54 [some (.ref 65), some (.ref (15 + 12 * s1 + 2 * p1)), some (.int l2), some (.int l3), some (.int l4), some (.int l5), some (.int l6), some (.int l7), some (.int l8)] [] I J k = zd S 70 81 [some (.ref 65), some (.ref (15 + 12 * s1 + 2 * p1)), some (.int l2), some (.int l3), some (.int l4), some (.int l5), some (.int l6), some (.int l7), some (.int l8)] [] I1 J2 k := by
  refine (tt_f rfl).trans ?_
  refine (tt_al rfl).trans ?_
  refine (tt_f rfl).trans ?_
  refine (tt_gr rfl rfl).trans ?_
  refine (tt_f rfl).trans ?_
  refine (tt_al rfl).trans ?_
  refine (tt_f rfl).trans ?_
  refine (tt_gi (shP hs1 hp1) rfl).trans ?_
  refine (tt_f rfl).trans ?_
  refine (tt_al rfl).trans ?_
  refine (tt_f rfl).trans ?_
  refine (tt_gi (shP hs1 hp1) rfl).trans ?_
  refine (tt_f rfl).trans ?_
  refine (tt_il rfl).trans ?_
  refine (tt_f rfl).trans ?_
  refine tt_bi.trans ?_
  refine (tt_f rfl).trans ?_
  refine (tt_il rfl).trans ?_
  refine (tt_f rfl).trans ?_
  refine (tt_il rfl).trans ?_
  refine (tt_f rfl).trans ?_
  refine tt_bi.trans ?_
  refine (tt_f rfl).trans ?_
  refine (tt_il rfl).trans ?_
  refine (tt_f rfl).trans ?_
  refine (tt_il rfl).trans ?_
  refine (tt_f rfl).trans ?_
  refine tt_bi.trans ?_
  exact tt_cv (As := [.int (I (15 + 12 * s1 + 2 * p1) 1), .int ((I (15 + 12 * s1 + 2 * p1) 2) + l6), .int (l7 + l8), .int (l2 + l5)]) rfl hb.1 hb.2 rfl rfl rfl rfl rfl hq
theorem B70_81 {l2 : Int32} {l3 : Int32} {l4 : Int32} {l5 : Int32} {l6 : Int32} {l7 : Int32} {l8 : Int32} {s1 : Nat} {p1 : Nat} (hs1 : s1 < 4) (hp1 : p1 < 2) : zd S 70 81 [some (.ref 65), some (.ref (15 + 12 * s1 + 2 * p1)), some (.int l2), some (.int l3), some (.int l4), some (.int l5), some (.int l6), some (.int l7), some (.int l8)] [] I J k = zd S 70 42 [some (.ref 65), some (.ref (15 + 12 * s1 + 2 * p1)), some (.int l2), some (.int l3), some (.int l4), some (.int (l5 + 1)), some (.int l6), some (.int l7), some (.int (l8 + 1))] [] I J k := by
  refine (tt_f rfl).trans ?_
  refine (tt_in rfl rfl).trans ?_
  refine (tt_f rfl).trans ?_
  refine (tt_in rfl rfl).trans ?_
  refine (tt_f rfl).trans ?_
  refine tt_go.trans ?_
  rfl
theorem B70_90 {l2 : Int32} {l3 : Int32} {l4 : Int32} {l5 : Int32} {l6 : Int32} {l7 : Int32} {l8 : Int32} {s1 : Nat} {p1 : Nat} (hs1 : s1 < 4) (hp1 : p1 < 2) : zd S 70 90 [some (.ref 65), some (.ref (15 + 12 * s1 + 2 * p1)), some (.int l2), some (.int l3), some (.int l4), some (.int l5), some (.int l6), some (.int l7), some (.int l8)] [] I J k = zd S 70 9 [some (.ref 65), some (.ref (15 + 12 * s1 + 2 * p1)), some (.int l2), some (.int l3), some (.int l4), some (.int l5), some (.int (l6 + 1)), some (.int l7), some (.int l8)] [] I J k := by
  refine (tt_f rfl).trans ?_
  refine (tt_in rfl rfl).trans ?_
  refine (tt_f rfl).trans ?_
  refine tt_go.trans ?_
  rfl
theorem B70_96 {l2 : Int32} {l3 : Int32} {l4 : Int32} {l5 : Int32} {l6 : Int32} {s1 : Nat} {p1 : Nat} (hs1 : s1 < 4) (hp1 : p1 < 2) : zd S 70 96 [some (.ref 65), some (.ref (15 + 12 * s1 + 2 * p1)), some (.int l2), some (.int l3), some (.int l4), some (.int l5), some (.int l6), none, none] [] I J k = some (none, mk I J, k) := by
  exact tt_rv rfl
/-! 72: Reader.readText -/
theorem B72_0 {l2 : Int32} (hb : Nat.ble k.1 (mBu 72).1 = true ∧ Nat.ble k.2 (mBu 72).2 = true)  : zd S 72 0 [some (.ref 4), some (.ref 2), some (.int l2), none, none] [] I J k = zd S 72 11 [some (.ref 4), some (.ref 2), some (.int l2), none, none] [] (u2 I 4 2 (if 480 < l2 then 480 else l2)) J k := by
  refine (tt_f rfl).trans ?_
  refine (tt_al rfl).trans ?_
  refine (tt_f rfl).trans ?_
  refine (tt_il rfl).trans ?_
  refine (tt_f rfl).trans ?_
  refine tt_c.trans ?_
  refine (tt_f rfl).trans ?_
  refine (tt_mm rfl hb.1 hb.2).trans ?_
  refine (tt_f rfl).trans ?_
  exact tt_pi rfl rfl rfl
theorem B72_11 {l2 : Int32} (g3 : 0 ≤ (I 4 2).toInt) (g4 : (0 : Int32).toNatClampNeg + (I 4 2).toNatClampNeg ≤ 480) (g5 : (0 : Int32).toNatClampNeg + (I 4 2).toNatClampNeg ≤ 480) (g6 : ∀ i, i < (I 4 2).toNatClampNeg → zfit 2 (I 2 ((0 : Int32).toNatClampNeg + i)) = true) : zd S 72 11 [some (.ref 4), some (.ref 2), some (.int l2), none, none] [] I J k = zd S 72 25 [some (.ref 4), some (.ref 2), some (.int l2), none, none] [] (uc I 5 (va_cpy (I 2) (I 5) (0 : Int32).toNatClampNeg (0 : Int32).toNatClampNeg (I 4 2).toNatClampNeg)) J k := by
  refine (tt_f rfl).trans ?_
  refine (tt_al rfl).trans ?_
  refine (tt_f rfl).trans ?_
  refine tt_c.trans ?_
  refine (tt_f rfl).trans ?_
  refine (tt_al rfl).trans ?_
  refine (tt_f rfl).trans ?_
  refine (tt_gr rfl rfl).trans ?_
  refine (tt_f rfl).trans ?_
  refine tt_c.trans ?_
  refine (tt_f rfl).trans ?_
  refine (tt_al rfl).trans ?_
  refine (tt_f rfl).trans ?_
  refine (tt_gi rfl rfl).trans ?_
  refine (tt_f rfl).trans ?_
  exact tt_cp rfl rfl (by decide) (by decide) (by decide) g3 g4 g5 g6 rfl
theorem B72_25 {l2 : Int32}  : zd S 72 25 [some (.ref 4), some (.ref 2), some (.int l2), none, none] [] I J k = zd S 72 30 [some (.ref 4), some (.ref 2), some (.int l2), none, none] [] (u2 I 4 3 0) J k := by
  refine (tt_f rfl).trans ?_
  refine (tt_al rfl).trans ?_
  refine (tt_f rfl).trans ?_
  refine tt_c.trans ?_
  refine (tt_f rfl).trans ?_
  exact tt_pi rfl rfl rfl
theorem B72_30 {l2 : Int32}  : zd S 72 30 [some (.ref 4), some (.ref 2), some (.int l2), none, none] [] I J k = zd S 72 35 [some (.ref 4), some (.ref 2), some (.int l2), none, none] [] (u2 I 4 4 0) J k := by
  refine (tt_f rfl).trans ?_
  refine (tt_al rfl).trans ?_
  refine (tt_f rfl).trans ?_
  refine tt_c.trans ?_
  refine (tt_f rfl).trans ?_
  exact tt_pi rfl rfl rfl
theorem B72_35 {l2 : Int32}  : zd S 72 35 [some (.ref 4), some (.ref 2), some (.int l2), none, none] [] I J k = zd S 72 40 [some (.ref 4), some (.ref 2), some (.int l2), none, none] [] (u2 I 4 5 (-1)) J k := by
  refine (tt_f rfl).trans ?_
  refine (tt_al rfl).trans ?_
  refine (tt_f rfl).trans ?_
  refine tt_c.trans ?_
  refine (tt_f rfl).trans ?_
  exact tt_pi rfl rfl rfl
theorem B72_40 {l2 : Int32}  : zd S 72 40 [some (.ref 4), some (.ref 2), some (.int l2), none, none] [] I J k = if (I 4 2) ≤ 0 then zd S 72 51 [some (.ref 4), some (.ref 2), some (.int l2), none, none] [] I J k else zd S 72 47 [some (.ref 4), some (.ref 2), some (.int l2), none, none] [] I J k := by
  refine (tt_f rfl).trans ?_
  refine (tt_al rfl).trans ?_
  refine (tt_f rfl).trans ?_
  refine (tt_gi rfl rfl).trans ?_
  refine (tt_f rfl).trans ?_
  exact tt_f1 (p := fun x => x ≤ 0) inferInstance rfl
theorem B72_47 {l2 : Int32}  : zd S 72 47 [some (.ref 4), some (.ref 2), some (.int l2), none, none] [] I J k = zd S 72 56 [some (.ref 4), none, none, some (.int 1), some (.int 0)] [] I J k := by
  refine (tt_f rfl).trans ?_
  refine tt_c.trans ?_
  refine (tt_f rfl).trans ?_
  refine tt_go.trans ?_
  refine (tt_fk rfl rfl).trans ?_
  refine (tt_is rfl rfl).trans ?_
  refine (tt_f rfl).trans ?_
  refine tt_c.trans ?_
  refine (tt_f rfl).trans ?_
  refine (tt_is rfl rfl).trans ?_
  rfl
theorem B72_51 {l2 : Int32}  : zd S 72 51 [some (.ref 4), some (.ref 2), some (.int l2), none, none] [] I J k = zd S 72 56 [some (.ref 4), none, none, some (.int 0), some (.int 0)] [] I J k := by
  refine (tt_f rfl).trans ?_
  refine tt_c.trans ?_
  refine (tt_fk rfl rfl).trans ?_
  refine (tt_is rfl rfl).trans ?_
  refine (tt_f rfl).trans ?_
  refine tt_c.trans ?_
  refine (tt_f rfl).trans ?_
  refine (tt_is rfl rfl).trans ?_
  rfl
theorem B72_56 {l3 : Int32} {l4 : Int32}  : zd S 72 56 [some (.ref 4), none, none, some (.int l3), some (.int l4)] [] I J k = if 4 < l4 then zd S 72 123 [some (.ref 4), none, none, some (.int l3), some (.int l4)] [] I J k else zd S 72 62 [some (.ref 4), none, none, some (.int l3), some (.int l4)] [] I J k := by
  refine (tt_fk rfl rfl).trans ?_
  refine (tt_il rfl).trans ?_
  refine (tt_f rfl).trans ?_
  refine tt_c.trans ?_
  refine (tt_f rfl).trans ?_
  exact tt_f2 (p := fun x y => y < x) inferInstance rfl
theorem B72_62 {l3 : Int32} {l4 : Int32}  : zd S 72 62 [some (.ref 4), none, none, some (.int l3), some (.int l4)] [] I J k = if l3 = 0 then zd S 72 123 [some (.ref 4), none, none, some (.int l3), some (.int l4)] [] I J k else zd S 72 66 [some (.ref 4), none, none, some (.int l3), some (.int l4)] [] I J k := by
  refine (tt_f rfl).trans ?_
  refine (tt_il rfl).trans ?_
  refine (tt_f rfl).trans ?_
  exact tt_f1 (p := fun x => x = 0) inferInstance rfl
theorem B72_66 {l3 : Int32} {l4 : Int32}  : zd S 72 66 [some (.ref 4), none, none, some (.int l3), some (.int l4)] [] I J k = if (I 4 2) ≤ (I 4 3) then zd S 72 123 [some (.ref 4), none, none, some (.int l3), some (.int l4)] [] I J k else zd S 72 77 [some (.ref 4), none, none, some (.int l3), some (.int l4)] [] I J k := by
  refine (tt_f rfl).trans ?_
  refine (tt_al rfl).trans ?_
  refine (tt_f rfl).trans ?_
  refine (tt_gi rfl rfl).trans ?_
  refine (tt_f rfl).trans ?_
  refine (tt_al rfl).trans ?_
  refine (tt_f rfl).trans ?_
  refine (tt_gi rfl rfl).trans ?_
  refine (tt_f rfl).trans ?_
  exact tt_f2 (p := fun x y => y ≤ x) inferInstance rfl
theorem B72_77 {l3 : Int32} {l4 : Int32}  : zd S 72 77 [some (.ref 4), none, none, some (.int l3), some (.int l4)] [] I J k = if 4 ≤ (I 4 4) then zd S 72 105 [some (.ref 4), none, none, some (.int l3), some (.int l4)] [] I J k else zd S 72 85 [some (.ref 4), none, none, some (.int l3), some (.int l4)] [] I J k := by
  refine (tt_f rfl).trans ?_
  refine (tt_al rfl).trans ?_
  refine (tt_f rfl).trans ?_
  refine (tt_gi rfl rfl).trans ?_
  refine (tt_f rfl).trans ?_
  refine tt_c.trans ?_
  refine (tt_f rfl).trans ?_
  exact tt_f2 (p := fun x y => y ≤ x) inferInstance rfl
theorem B72_85 {l3 : Int32} {l4 : Int32} {s94x : Nat} {v3 : Int32} {I4 : zI} {J5 : zJ} (hb : Nat.ble k.1 (mBu 72).1 = true ∧ Nat.ble k.2 (mBu 72).2 = true) (hs94x : s94x < 4) (hi1 : zin (I 4 4) 4 = true) (ha2 : ([7, 19, 31, 43] : List Nat)[(I 4 4).toNatClampNeg]? = some (7 + 12 * s94x)) (hq : zq S 73 [.ref 4, .ref (7 + 12 * s94x)] I J (some (.int v3)) I4 J5) : zd S 72 85 [some (.ref 4), none, none, some (.int l3), some (.int l4)] [] I J k = zd S 72 98 [some (.ref 4), none, none, some (.int l3), some (.int l4)] [.int v3] I4 J5 k := by
  refine (tt_f rfl).trans ?_
  refine (tt_al rfl).trans ?_
  refine (tt_f rfl).trans ?_
  refine (tt_al rfl).trans ?_
  refine (tt_f rfl).trans ?_
  refine (tt_gr rfl rfl).trans ?_
  refine (tt_f rfl).trans ?_
  refine (tt_al rfl).trans ?_
  refine (tt_f rfl).trans ?_
  refine (tt_gi rfl rfl).trans ?_
  refine (tt_f rfl).trans ?_
  refine (tt_gq rfl hi1 ha2).trans ?_
  exact tt_cv (As := [.ref (7 + 12 * s94x)]) rfl hb.1 hb.2 rfl rfl rfl rfl rfl hq
theorem B72_98 {l3 : Int32} {l4 : Int32} {t0 : Int32}  : zd S 72 98 [some (.ref 4), none, none, some (.int l3), some (.int l4)] [.int t0] I J k = if t0 = 0 then zd S 72 105 [some (.ref 4), none, none, some (.int l3), some (.int l4)] [] I J k else zd S 72 101 [some (.ref 4), none, none, some (.int l3), some (.int l4)] [] I J k := by
  refine (tt_f rfl).trans ?_
  exact tt_f1 (p := fun x => x = 0) inferInstance rfl
theorem B72_101 {l3 : Int32} {l4 : Int32}  : zd S 72 101 [some (.ref 4), none, none, some (.int l3), some (.int l4)] [] I J k = zd S 72 117 [some (.ref 4), none, none, some (.int 1), some (.int l4)] [] (u2 I 4 4 ((I 4 4) + 1)) J k := by
  refine (tt_f rfl).trans ?_
  refine tt_c.trans ?_
  refine (tt_f rfl).trans ?_
  refine tt_go.trans ?_
  refine (tt_fk rfl rfl).trans ?_
  refine (tt_is rfl rfl).trans ?_
  refine (tt_f rfl).trans ?_
  refine (tt_al rfl).trans ?_
  refine (tt_f rfl).trans ?_
  refine (tt_dup rfl).trans ?_
  refine (tt_f rfl).trans ?_
  refine (tt_gi rfl rfl).trans ?_
  refine (tt_f rfl).trans ?_
  refine tt_c.trans ?_
  refine (tt_f rfl).trans ?_
  refine tt_bi.trans ?_
  refine (tt_f rfl).trans ?_
  exact tt_pi rfl rfl rfl
theorem B72_105 {l3 : Int32} {l4 : Int32}  : zd S 72 105 [some (.ref 4), none, none, some (.int l3), some (.int l4)] [] I J k = zd S 72 117 [some (.ref 4), none, none, some (.int 0), some (.int l4)] [] (u2 I 4 4 ((I 4 4) + 1)) J k := by
  refine (tt_fk rfl rfl).trans ?_
  refine tt_c.trans ?_
  refine (tt_fk rfl rfl).trans ?_
  refine (tt_is rfl rfl).trans ?_
  refine (tt_f rfl).trans ?_
  refine (tt_al rfl).trans ?_
  refine (tt_f rfl).trans ?_
  refine (tt_dup rfl).trans ?_
  refine (tt_f rfl).trans ?_
  refine (tt_gi rfl rfl).trans ?_
  refine (tt_f rfl).trans ?_
  refine tt_c.trans ?_
  refine (tt_f rfl).trans ?_
  refine tt_bi.trans ?_
  refine (tt_f rfl).trans ?_
  exact tt_pi rfl rfl rfl
theorem B72_117 {l3 : Int32} {l4 : Int32}  : zd S 72 117 [some (.ref 4), none, none, some (.int l3), some (.int l4)] [] I J k = zd S 72 56 [some (.ref 4), none, none, some (.int l3), some (.int (l4 + 1))] [] I J k := by
  refine (tt_f rfl).trans ?_
  refine (tt_in rfl rfl).trans ?_
  refine (tt_f rfl).trans ?_
  refine tt_go.trans ?_
  rfl
theorem B72_123 {l3 : Int32} {l4 : Int32}  : zd S 72 123 [some (.ref 4), none, none, some (.int l3), some (.int l4)] [] I J k = if ¬ l3 = 0 then zd S 72 140 [some (.ref 4), none, none, some (.int l3), none] [] I J k else zd S 72 127 [some (.ref 4), none, none, some (.int l3), none] [] I J k := by
  refine (tt_fk rfl rfl).trans ?_
  refine (tt_il rfl).trans ?_
  refine (tt_f rfl).trans ?_
  exact tt_f1 (p := fun x => ¬ x = 0) inferInstance rfl
theorem B72_127 {l3 : Int32}  : zd S 72 127 [some (.ref 4), none, none, some (.int l3), none] [] I J k = zd S 72 132 [some (.ref 4), none, none, some (.int l3), none] [] (u2 I 4 4 0) J k := by
  refine (tt_f rfl).trans ?_
  refine (tt_al rfl).trans ?_
  refine (tt_f rfl).trans ?_
  refine tt_c.trans ?_
  refine (tt_f rfl).trans ?_
  exact tt_pi rfl rfl rfl
theorem B72_132 {l3 : Int32}  : zd S 72 132 [some (.ref 4), none, none, some (.int l3), none] [] I J k = zd S 72 140 [some (.ref 4), none, none, some (.int l3), none] [] (u2 I 4 5 (I 4 3)) J k := by
  refine (tt_f rfl).trans ?_
  refine (tt_al rfl).trans ?_
  refine (tt_f rfl).trans ?_
  refine (tt_al rfl).trans ?_
  refine (tt_f rfl).trans ?_
  refine (tt_gi rfl rfl).trans ?_
  refine (tt_f rfl).trans ?_
  exact tt_pi rfl rfl rfl
theorem B72_140 {l3 : Int32}  : zd S 72 140 [some (.ref 4), none, none, some (.int l3), none] [] I J k = some (none, mk I J, k) := by
  exact tt_rv rfl
/-! 73: Reader.readStory -/
theorem B73_0 {s1 : Nat} {I1 : zI} {J2 : zJ} (hb : Nat.ble k.1 (mBu 73).1 = true ∧ Nat.ble k.2 (mBu 73).2 = true) (hs1 : s1 < 4) (hq : zq S 89 [.ref (7 + 12 * s1)] I J none I1 J2) : zd S 73 0 [some (.ref 4), some (.ref (7 + 12 * s1)), none, none] [] I J k = zd S 73 4 [some (.ref 4), some (.ref (7 + 12 * s1)), none, none] [] I1 J2 k := by
  refine (tt_f rfl).trans ?_
  refine (tt_al rfl).trans ?_
  exact tt_cv (As := []) rfl hb.1 hb.2 rfl rfl rfl rfl (shS hs1) hq
theorem B73_4 {s1 : Nat} {v1 : Int32} {I2 : zI} {J3 : zJ} (hb : Nat.ble k.1 (mBu 73).1 = true ∧ Nat.ble k.2 (mBu 73).2 = true) (hs1 : s1 < 4) (hq : zq S 78 [.ref 4, .int 35] I J (some (.int v1)) I2 J3) : zd S 73 4 [some (.ref 4), some (.ref (7 + 12 * s1)), none, none] [] I J k = zd S 73 10 [some (.ref 4), some (.ref (7 + 12 * s1)), none, none] [.int v1] I2 J3 k := by
  refine (tt_f rfl).trans ?_
  refine (tt_al rfl).trans ?_
  refine (tt_f rfl).trans ?_
  refine tt_c.trans ?_
  exact tt_cv (As := [.int 35]) rfl hb.1 hb.2 rfl rfl rfl rfl rfl hq
theorem B73_10 {t0 : Int32} {s1 : Nat} (hs1 : s1 < 4) : zd S 73 10 [some (.ref 4), some (.ref (7 + 12 * s1)), none, none] [.int t0] I J k = if t0 = 0 then zd S 73 24 [some (.ref 4), some (.ref (7 + 12 * s1)), none, none] [] I J k else zd S 73 13 [some (.ref 4), some (.ref (7 + 12 * s1)), none, none] [] I J k := by
  refine (tt_f rfl).trans ?_
  exact tt_f1 (p := fun x => x = 0) inferInstance rfl
theorem B73_13 {s1 : Nat} {v1 : Int32} {I2 : zI} {J3 : zJ} (hb : Nat.ble k.1 (mBu 73).1 = true ∧ Nat.ble k.2 (mBu 73).2 = true) (hs1 : s1 < 4) (hq : zq S 79 [.ref 4] I J (some (.int v1)) I2 J3) : zd S 73 13 [some (.ref 4), some (.ref (7 + 12 * s1)), none, none] [] I J k = zd S 73 17 [some (.ref 4), some (.ref (7 + 12 * s1)), none, none] [.int v1] I2 J3 k := by
  refine (tt_f rfl).trans ?_
  refine (tt_al rfl).trans ?_
  exact tt_cv (As := []) rfl hb.1 hb.2 rfl rfl rfl rfl rfl hq
theorem B73_17 {t0 : Int32} {s1 : Nat} {v1 : Int32} {I2 : zI} {J3 : zJ} (hb : Nat.ble k.1 (mBu 73).1 = true ∧ Nat.ble k.2 (mBu 73).2 = true) (hs1 : s1 < 4) (hq : zq S 20 [.int t0, .int 0] I J (some (.int v1)) I2 J3) : zd S 73 17 [some (.ref 4), some (.ref (7 + 12 * s1)), none, none] [.int t0] I J k = zd S 73 21 [some (.ref 4), some (.ref (7 + 12 * s1)), none, none] [.int v1] I2 J3 k := by
  refine (tt_f rfl).trans ?_
  refine tt_c.trans ?_
  exact tt_cs (vs := [.int t0, .int 0]) rfl hb.1 hb.2 rfl rfl rfl rfl hq
theorem B73_21 {t0 : Int32} {s1 : Nat} (hs1 : s1 < 4) : zd S 73 21 [some (.ref 4), some (.ref (7 + 12 * s1)), none, none] [.int t0] I J k = if ¬ t0 = 0 then zd S 73 26 [some (.ref 4), some (.ref (7 + 12 * s1)), none, none] [] I J k else zd S 73 24 [some (.ref 4), some (.ref (7 + 12 * s1)), none, none] [] I J k := by
  refine (tt_f rfl).trans ?_
  exact tt_f1 (p := fun x => ¬ x = 0) inferInstance rfl
theorem B73_24 {s1 : Nat} (hs1 : s1 < 4) (hz : zrt 2 (.int 0) = true) : zd S 73 24 [some (.ref 4), some (.ref (7 + 12 * s1)), none, none] [] I J k = some ((some (.int 0)), mk I J, k) := by
  refine (tt_fk rfl rfl).trans ?_
  refine tt_c.trans ?_
  exact tt_r1 rfl hz
theorem B73_26 {s1 : Nat} {v1 : Int32} {I2 : zI} {J3 : zJ} (hb : Nat.ble k.1 (mBu 73).1 = true ∧ Nat.ble k.2 (mBu 73).2 = true) (hs1 : s1 < 4) (hq : zq S 79 [.ref 4] I J (some (.int v1)) I2 J3) : zd S 73 26 [some (.ref 4), some (.ref (7 + 12 * s1)), none, none] [] I J k = zd S 73 31 [some (.ref 4), some (.ref (7 + 12 * s1)), none, none] [.int v1, .ref (7 + 12 * s1)] I2 J3 k := by
  refine (tt_f rfl).trans ?_
  refine (tt_al rfl).trans ?_
  refine (tt_f rfl).trans ?_
  refine (tt_al rfl).trans ?_
  exact tt_cv (As := []) rfl hb.1 hb.2 rfl rfl rfl rfl rfl hq
theorem B73_31 {t1 : Int32} {s1 : Nat} (hs1 : s1 < 4) : zd S 73 31 [some (.ref 4), some (.ref (7 + 12 * s1)), none, none] [.int t1, .ref (7 + 12 * s1)] I J k = zd S 73 37 [some (.ref 4), some (.ref (7 + 12 * s1)), none, none] [] (u2 I (7 + 12 * s1) 8 (t1 - 48)) J k := by
  refine (tt_f rfl).trans ?_
  refine tt_c.trans ?_
  refine (tt_f rfl).trans ?_
  refine tt_bi.trans ?_
  refine (tt_f rfl).trans ?_
  exact tt_pi (shS hs1) rfl rfl
theorem B73_37 {s1 : Nat} (hs1 : s1 < 4) : zd S 73 37 [some (.ref 4), some (.ref (7 + 12 * s1)), none, none] [] I J k = zd S 73 47 [some (.ref 4), some (.ref (7 + 12 * s1)), none, none] [] (u2 I 4 3 ((I 4 3) + 1)) J k := by
  refine (tt_f rfl).trans ?_
  refine (tt_al rfl).trans ?_
  refine (tt_f rfl).trans ?_
  refine (tt_dup rfl).trans ?_
  refine (tt_f rfl).trans ?_
  refine (tt_gi rfl rfl).trans ?_
  refine (tt_f rfl).trans ?_
  refine tt_c.trans ?_
  refine (tt_f rfl).trans ?_
  refine tt_bi.trans ?_
  refine (tt_f rfl).trans ?_
  exact tt_pi rfl rfl rfl
theorem B73_47 {s1 : Nat} (hs1 : s1 < 4) : zd S 73 47 [some (.ref 4), some (.ref (7 + 12 * s1)), none, none] [] I J k = zd S 73 55 [some (.ref 4), some (.ref (7 + 12 * s1)), none, none] [] (u2 I (7 + 12 * s1) 9 (I 4 3)) J k := by
  refine (tt_f rfl).trans ?_
  refine (tt_al rfl).trans ?_
  refine (tt_f rfl).trans ?_
  refine (tt_al rfl).trans ?_
  refine (tt_f rfl).trans ?_
  refine (tt_gi rfl rfl).trans ?_
  refine (tt_f rfl).trans ?_
  exact tt_pi (shS hs1) rfl rfl
theorem B73_55 {s1 : Nat} {v1 : Int32} {I2 : zI} {J3 : zJ} (hb : Nat.ble k.1 (mBu 73).1 = true ∧ Nat.ble k.2 (mBu 73).2 = true) (hs1 : s1 < 4) (hq : zq S 76 [.ref 4, .int 4] I J (some (.int v1)) I2 J3) : zd S 73 55 [some (.ref 4), some (.ref (7 + 12 * s1)), none, none] [] I J k = zd S 73 60 [some (.ref 4), some (.ref (7 + 12 * s1)), none, none] [.int v1] I2 J3 k := by
  refine (tt_f rfl).trans ?_
  refine (tt_al rfl).trans ?_
  refine (tt_f rfl).trans ?_
  refine tt_c.trans ?_
  exact tt_cv (As := [.int 4]) rfl hb.1 hb.2 rfl rfl rfl rfl rfl hq
theorem B73_60 {t0 : Int32} {s1 : Nat} (hs1 : s1 < 4) : zd S 73 60 [some (.ref 4), some (.ref (7 + 12 * s1)), none, none] [.int t0] I J k = if ¬ t0 = 0 then zd S 73 65 [some (.ref 4), some (.ref (7 + 12 * s1)), none, none] [] I J k else zd S 73 63 [some (.ref 4), some (.ref (7 + 12 * s1)), none, none] [] I J k := by
  refine (tt_f rfl).trans ?_
  exact tt_f1 (p := fun x => ¬ x = 0) inferInstance rfl
theorem B73_63 {s1 : Nat} (hs1 : s1 < 4) (hz : zrt 2 (.int 0) = true) : zd S 73 63 [some (.ref 4), some (.ref (7 + 12 * s1)), none, none] [] I J k = some ((some (.int 0)), mk I J, k) := by
  refine (tt_f rfl).trans ?_
  refine tt_c.trans ?_
  exact tt_r1 rfl hz
theorem B73_65 {s1 : Nat} (hs1 : s1 < 4) : zd S 73 65 [some (.ref 4), some (.ref (7 + 12 * s1)), none, none] [] I J k = zd S 73 73 [some (.ref 4), some (.ref (7 + 12 * s1)), none, none] [] (u2 I (7 + 12 * s1) 10 (I 4 3)) J k := by
  refine (tt_f rfl).trans ?_
  refine (tt_al rfl).trans ?_
  refine (tt_f rfl).trans ?_
  refine (tt_al rfl).trans ?_
  refine (tt_f rfl).trans ?_
  refine (tt_gi rfl rfl).trans ?_
  refine (tt_f rfl).trans ?_
  exact tt_pi (shS hs1) rfl rfl
theorem B73_73 {s1 : Nat} {v1 : Int32} {I2 : zI} {J3 : zJ} (hb : Nat.ble k.1 (mBu 73).1 = true ∧ Nat.ble k.2 (mBu 73).2 = true) (hs1 : s1 < 4) (hq : zq S 78 [.ref 4, .int 10] I J (some (.int v1)) I2 J3) : zd S 73 73 [some (.ref 4), some (.ref (7 + 12 * s1)), none, none] [] I J k = zd S 73 79 [some (.ref 4), some (.ref (7 + 12 * s1)), none, none] [.int v1] I2 J3 k := by
  refine (tt_f rfl).trans ?_
  refine (tt_al rfl).trans ?_
  refine (tt_f rfl).trans ?_
  refine tt_c.trans ?_
  exact tt_cv (As := [.int 10]) rfl hb.1 hb.2 rfl rfl rfl rfl rfl hq
theorem B73_79 {t0 : Int32} {s1 : Nat} (hs1 : s1 < 4) : zd S 73 79 [some (.ref 4), some (.ref (7 + 12 * s1)), none, none] [.int t0] I J k = if t0 = 0 then zd S 73 94 [some (.ref 4), some (.ref (7 + 12 * s1)), none, none] [] I J k else zd S 73 82 [some (.ref 4), some (.ref (7 + 12 * s1)), none, none] [] I J k := by
  refine (tt_f rfl).trans ?_
  exact tt_f1 (p := fun x => x = 0) inferInstance rfl
theorem B73_82 {s1 : Nat} {v1 : Int32} {I2 : zI} {J3 : zJ} (hb : Nat.ble k.1 (mBu 73).1 = true ∧ Nat.ble k.2 (mBu 73).2 = true) (hs1 : s1 < 4) (hq : zq S 74 [.ref 4, .ref (7 + 12 * s1)] I J (some (.int v1)) I2 J3) : zd S 73 82 [some (.ref 4), some (.ref (7 + 12 * s1)), none, none] [] I J k = zd S 73 87 [some (.ref 4), some (.ref (7 + 12 * s1)), none, none] [.int v1] I2 J3 k := by
  refine (tt_f rfl).trans ?_
  refine (tt_al rfl).trans ?_
  refine (tt_f rfl).trans ?_
  refine (tt_al rfl).trans ?_
  exact tt_cv (As := [.ref (7 + 12 * s1)]) rfl hb.1 hb.2 rfl rfl rfl rfl rfl hq
theorem B73_87 {t0 : Int32} {s1 : Nat} (hs1 : s1 < 4) : zd S 73 87 [some (.ref 4), some (.ref (7 + 12 * s1)), none, none] [.int t0] I J k = if t0 = 0 then zd S 73 94 [some (.ref 4), some (.ref (7 + 12 * s1)), none, none] [] I J k else zd S 73 90 [some (.ref 4), some (.ref (7 + 12 * s1)), none, none] [] I J k := by
  refine (tt_f rfl).trans ?_
  exact tt_f1 (p := fun x => x = 0) inferInstance rfl
theorem B73_90 {s1 : Nat} (hs1 : s1 < 4) : zd S 73 90 [some (.ref 4), some (.ref (7 + 12 * s1)), none, none] [] I J k = zd S 73 101 [some (.ref 4), some (.ref (7 + 12 * s1)), some (.int 1), some (.int (I 4 3))] [] I J k := by
  refine (tt_f rfl).trans ?_
  refine tt_c.trans ?_
  refine (tt_f rfl).trans ?_
  refine tt_go.trans ?_
  refine (tt_fk rfl rfl).trans ?_
  refine (tt_is rfl rfl).trans ?_
  refine (tt_f rfl).trans ?_
  refine (tt_al rfl).trans ?_
  refine (tt_f rfl).trans ?_
  refine (tt_gi rfl rfl).trans ?_
  refine (tt_f rfl).trans ?_
  refine (tt_is rfl rfl).trans ?_
  rfl
theorem B73_94 {s1 : Nat} (hs1 : s1 < 4) : zd S 73 94 [some (.ref 4), some (.ref (7 + 12 * s1)), none, none] [] I J k = zd S 73 101 [some (.ref 4), some (.ref (7 + 12 * s1)), some (.int 0), some (.int (I 4 3))] [] I J k := by
  refine (tt_fk rfl rfl).trans ?_
  refine tt_c.trans ?_
  refine (tt_fk rfl rfl).trans ?_
  refine (tt_is rfl rfl).trans ?_
  refine (tt_f rfl).trans ?_
  refine (tt_al rfl).trans ?_
  refine (tt_f rfl).trans ?_
  refine (tt_gi rfl rfl).trans ?_
  refine (tt_f rfl).trans ?_
  refine (tt_is rfl rfl).trans ?_
  rfl
theorem B73_101 {l2 : Int32} {l3 : Int32} {s1 : Nat} (hs1 : s1 < 4) : zd S 73 101 [some (.ref 4), some (.ref (7 + 12 * s1)), some (.int l2), some (.int l3)] [] I J k = if (I 4 2) ≤ l3 then zd S 73 145 [some (.ref 4), some (.ref (7 + 12 * s1)), some (.int l2), some (.int l3)] [] I J k else zd S 73 109 [some (.ref 4), some (.ref (7 + 12 * s1)), some (.int l2), some (.int l3)] [] I J k := by
  refine (tt_fk rfl rfl).trans ?_
  refine (tt_il rfl).trans ?_
  refine (tt_f rfl).trans ?_
  refine (tt_al rfl).trans ?_
  refine (tt_f rfl).trans ?_
  refine (tt_gi rfl rfl).trans ?_
  refine (tt_f rfl).trans ?_
  exact tt_f2 (p := fun x y => y ≤ x) inferInstance rfl
theorem B73_109 {l2 : Int32} {l3 : Int32} {s1 : Nat} (hs1 : s1 < 4) : zd S 73 109 [some (.ref 4), some (.ref (7 + 12 * s1)), some (.int l2), some (.int l3)] [] I J k = if l2 = 0 then zd S 73 145 [some (.ref 4), some (.ref (7 + 12 * s1)), some (.int l2), some (.int l3)] [] I J k else zd S 73 113 [some (.ref 4), some (.ref (7 + 12 * s1)), some (.int l2), some (.int l3)] [] I J k := by
  refine (tt_f rfl).trans ?_
  refine (tt_il rfl).trans ?_
  refine (tt_f rfl).trans ?_
  exact tt_f1 (p := fun x => x = 0) inferInstance rfl
theorem B73_113 {l2 : Int32} {l3 : Int32} {s1 : Nat} (hs1 : s1 < 4) : zd S 73 113 [some (.ref 4), some (.ref (7 + 12 * s1)), some (.int l2), some (.int l3)] [] I J k = if (I 4 2) ≤ (I 4 3) then zd S 73 145 [some (.ref 4), some (.ref (7 + 12 * s1)), some (.int l2), some (.int l3)] [] I J k else zd S 73 124 [some (.ref 4), some (.ref (7 + 12 * s1)), some (.int l2), some (.int l3)] [] I J k := by
  refine (tt_f rfl).trans ?_
  refine (tt_al rfl).trans ?_
  refine (tt_f rfl).trans ?_
  refine (tt_gi rfl rfl).trans ?_
  refine (tt_f rfl).trans ?_
  refine (tt_al rfl).trans ?_
  refine (tt_f rfl).trans ?_
  refine (tt_gi rfl rfl).trans ?_
  refine (tt_f rfl).trans ?_
  exact tt_f2 (p := fun x y => y ≤ x) inferInstance rfl
theorem B73_124 {l2 : Int32} {l3 : Int32} {s1 : Nat} {v1 : Int32} {I2 : zI} {J3 : zJ} (hb : Nat.ble k.1 (mBu 73).1 = true ∧ Nat.ble k.2 (mBu 73).2 = true) (hs1 : s1 < 4) (hq : zq S 79 [.ref 4] I J (some (.int v1)) I2 J3) : zd S 73 124 [some (.ref 4), some (.ref (7 + 12 * s1)), some (.int l2), some (.int l3)] [] I J k = zd S 73 128 [some (.ref 4), some (.ref (7 + 12 * s1)), some (.int l2), some (.int l3)] [.int v1] I2 J3 k := by
  refine (tt_f rfl).trans ?_
  refine (tt_al rfl).trans ?_
  exact tt_cv (As := []) rfl hb.1 hb.2 rfl rfl rfl rfl rfl hq
theorem B73_128 {l2 : Int32} {l3 : Int32} {t0 : Int32} {s1 : Nat} (hs1 : s1 < 4) : zd S 73 128 [some (.ref 4), some (.ref (7 + 12 * s1)), some (.int l2), some (.int l3)] [.int t0] I J k = if t0 = 35 then zd S 73 145 [some (.ref 4), some (.ref (7 + 12 * s1)), some (.int l2), some (.int l3)] [] I J k else zd S 73 133 [some (.ref 4), some (.ref (7 + 12 * s1)), some (.int l2), some (.int l3)] [] I J k := by
  refine (tt_f rfl).trans ?_
  refine tt_c.trans ?_
  refine (tt_f rfl).trans ?_
  exact tt_f2 (p := fun x y => x = y) inferInstance rfl
theorem B73_133 {l2 : Int32} {l3 : Int32} {s1 : Nat} {v1 : Int32} {I2 : zI} {J3 : zJ} (hb : Nat.ble k.1 (mBu 73).1 = true ∧ Nat.ble k.2 (mBu 73).2 = true) (hs1 : s1 < 4) (hq : zq S 74 [.ref 4, .ref (7 + 12 * s1)] I J (some (.int v1)) I2 J3) : zd S 73 133 [some (.ref 4), some (.ref (7 + 12 * s1)), some (.int l2), some (.int l3)] [] I J k = zd S 73 138 [some (.ref 4), some (.ref (7 + 12 * s1)), some (.int l2), some (.int l3)] [.int v1] I2 J3 k := by
  refine (tt_f rfl).trans ?_
  refine (tt_al rfl).trans ?_
  refine (tt_f rfl).trans ?_
  refine (tt_al rfl).trans ?_
  exact tt_cv (As := [.ref (7 + 12 * s1)]) rfl hb.1 hb.2 rfl rfl rfl rfl rfl hq
theorem B73_138 {l2 : Int32} {l3 : Int32} {t0 : Int32} {s1 : Nat} (hs1 : s1 < 4) : zd S 73 138 [some (.ref 4), some (.ref (7 + 12 * s1)), some (.int l2), some (.int l3)] [.int t0] I J k = zd S 73 101 [some (.ref 4), some (.ref (7 + 12 * s1)), some (.int t0), some (.int (l3 + 1))] [] I J k := by
  refine (tt_f rfl).trans ?_
  refine (tt_is rfl rfl).trans ?_
  refine (tt_f rfl).trans ?_
  refine (tt_in rfl rfl).trans ?_
  refine (tt_f rfl).trans ?_
  refine tt_go.trans ?_
  rfl
theorem B73_145 {l2 : Int32} {l3 : Int32} {s1 : Nat} (hs1 : s1 < 4) (hz : zrt 2 (.int l2) = true) : zd S 73 145 [some (.ref 4), some (.ref (7 + 12 * s1)), some (.int l2), some (.int l3)] [] I J k = some ((some (.int l2)), mk I J, k) := by
  refine (tt_fk rfl rfl).trans ?_
  refine (tt_il rfl).trans ?_
  exact tt_r1 rfl hz
/-! 74: Reader.readPart -/
theorem B74_0 {s1 : Nat} {v1 : Int32} {I2 : zI} {J3 : zJ} (hb : Nat.ble k.1 (mBu 74).1 = true ∧ Nat.ble k.2 (mBu 74).2 = true) (hs1 : s1 < 4) (hq : zq S 79 [.ref 4] I J (some (.int v1)) I2 J3) : zd S 74 0 [some (.ref 4), some (.ref (7 + 12 * s1))] [] I J k = zd S 74 4 [some (.ref 4), some (.ref (7 + 12 * s1))] [.int v1] I2 J3 k := by
  refine (tt_f rfl).trans ?_
  refine (tt_al rfl).trans ?_
  exact tt_cv (As := []) rfl hb.1 hb.2 rfl rfl rfl rfl rfl hq
theorem B74_4 {t0 : Int32} {s1 : Nat} (hs1 : s1 < 4) : zd S 74 4 [some (.ref 4), some (.ref (7 + 12 * s1))] [.int t0] I J k = if ¬ t0 = 61 then zd S 74 30 [some (.ref 4), some (.ref (7 + 12 * s1))] [] I J k else zd S 74 9 [some (.ref 4), some (.ref (7 + 12 * s1))] [] I J k := by
  refine (tt_f rfl).trans ?_
  refine tt_c.trans ?_
  refine (tt_f rfl).trans ?_
  exact tt_f2 (p := fun x y => ¬ x = y) inferInstance rfl
theorem B74_9 {s1 : Nat} (hs1 : s1 < 4) : zd S 74 9 [some (.ref 4), some (.ref (7 + 12 * s1))] [] I J k = if ¬ (I (7 + 12 * s1) 12) = 0 then zd S 74 28 [some (.ref 4), some (.ref (7 + 12 * s1))] [] I J k else zd S 74 16 [some (.ref 4), some (.ref (7 + 12 * s1))] [] I J k := by
  refine (tt_f rfl).trans ?_
  refine (tt_al rfl).trans ?_
  refine (tt_f rfl).trans ?_
  refine (tt_gi (shS hs1) rfl).trans ?_
  refine (tt_f rfl).trans ?_
  exact tt_f1 (p := fun x => ¬ x = 0) inferInstance rfl
theorem B74_16 {s1 : Nat} {v1 : Int32} {I2 : zI} {J3 : zJ} (hb : Nat.ble k.1 (mBu 74).1 = true ∧ Nat.ble k.2 (mBu 74).2 = true) (hs1 : s1 < 4) (hq : zq S 75 [.ref 4, .ref (7 + 12 * s1)] I J (some (.int v1)) I2 J3) : zd S 74 16 [some (.ref 4), some (.ref (7 + 12 * s1))] [] I J k = zd S 74 21 [some (.ref 4), some (.ref (7 + 12 * s1))] [.int v1] I2 J3 k := by
  refine (tt_f rfl).trans ?_
  refine (tt_al rfl).trans ?_
  refine (tt_f rfl).trans ?_
  refine (tt_al rfl).trans ?_
  exact tt_cv (As := [.ref (7 + 12 * s1)]) rfl hb.1 hb.2 rfl rfl rfl rfl rfl hq
theorem B74_21 {t0 : Int32} {s1 : Nat} (hs1 : s1 < 4) : zd S 74 21 [some (.ref 4), some (.ref (7 + 12 * s1))] [.int t0] I J k = if t0 = 0 then zd S 74 28 [some (.ref 4), some (.ref (7 + 12 * s1))] [] I J k else zd S 74 24 [some (.ref 4), some (.ref (7 + 12 * s1))] [] I J k := by
  refine (tt_f rfl).trans ?_
  exact tt_f1 (p := fun x => x = 0) inferInstance rfl
theorem B74_24 {s1 : Nat} (hs1 : s1 < 4) (hz : zrt 2 (.int 1) = true) : zd S 74 24 [some (.ref 4), some (.ref (7 + 12 * s1))] [] I J k = some ((some (.int 1)), mk I J, k) := by
  refine (tt_f rfl).trans ?_
  refine tt_c.trans ?_
  refine (tt_f rfl).trans ?_
  refine tt_go.trans ?_
  exact tt_r1 rfl hz
theorem B74_28 {s1 : Nat} (hs1 : s1 < 4) (hz : zrt 2 (.int 0) = true) : zd S 74 28 [some (.ref 4), some (.ref (7 + 12 * s1))] [] I J k = some ((some (.int 0)), mk I J, k) := by
  refine (tt_fk rfl rfl).trans ?_
  refine tt_c.trans ?_
  exact tt_r1 rfl hz
theorem B74_30 {s1 : Nat} (hs1 : s1 < 4) : zd S 74 30 [some (.ref 4), some (.ref (7 + 12 * s1))] [] I J k = if (I (7 + 12 * s1) 11) < 4 then zd S 74 40 [some (.ref 4), some (.ref (7 + 12 * s1))] [] I J k else zd S 74 38 [some (.ref 4), some (.ref (7 + 12 * s1))] [] I J k := by
  refine (tt_f rfl).trans ?_
  refine (tt_al rfl).trans ?_
  refine (tt_f rfl).trans ?_
  refine (tt_gi (shS hs1) rfl).trans ?_
  refine (tt_f rfl).trans ?_
  refine tt_c.trans ?_
  refine (tt_f rfl).trans ?_
  exact tt_f2 (p := fun x y => x < y) inferInstance rfl
theorem B74_38 {s1 : Nat} (hs1 : s1 < 4) (hz : zrt 2 (.int 0) = true) : zd S 74 38 [some (.ref 4), some (.ref (7 + 12 * s1))] [] I J k = some ((some (.int 0)), mk I J, k) := by
  refine (tt_f rfl).trans ?_
  refine tt_c.trans ?_
  exact tt_r1 rfl hz
theorem B74_40 {s1 : Nat} (hs1 : s1 < 4) (hi1 : zin (I (7 + 12 * s1) 11) 4 = true) : zd S 74 40 [some (.ref 4), some (.ref (7 + 12 * s1))] [] I J k = zd S 74 53 [some (.ref 4), some (.ref (7 + 12 * s1))] [] (u2 I (8 + 12 * s1) (I (7 + 12 * s1) 11).toNatClampNeg (I 4 3)) J k := by
  refine (tt_f rfl).trans ?_
  refine (tt_al rfl).trans ?_
  refine (tt_f rfl).trans ?_
  refine (tt_gr (shS hs1) rfl).trans ?_
  refine (tt_f rfl).trans ?_
  refine (tt_al rfl).trans ?_
  refine (tt_f rfl).trans ?_
  refine (tt_gi (shS hs1) rfl).trans ?_
  refine (tt_f rfl).trans ?_
  refine (tt_al rfl).trans ?_
  refine (tt_f rfl).trans ?_
  refine (tt_gi rfl rfl).trans ?_
  refine (tt_f rfl).trans ?_
  exact tt_pa (shS1 hs1) rfl hi1
theorem B74_53 {s1 : Nat} {v1 : Int32} {I2 : zI} {J3 : zJ} (hb : Nat.ble k.1 (mBu 74).1 = true ∧ Nat.ble k.2 (mBu 74).2 = true) (hs1 : s1 < 4) (hq : zq S 76 [.ref 4, .int 16] I J (some (.int v1)) I2 J3) : zd S 74 53 [some (.ref 4), some (.ref (7 + 12 * s1))] [] I J k = zd S 74 59 [some (.ref 4), some (.ref (7 + 12 * s1))] [.int v1] I2 J3 k := by
  refine (tt_f rfl).trans ?_
  refine (tt_al rfl).trans ?_
  refine (tt_f rfl).trans ?_
  refine tt_c.trans ?_
  exact tt_cv (As := [.int 16]) rfl hb.1 hb.2 rfl rfl rfl rfl rfl hq
theorem B74_59 {t0 : Int32} {s1 : Nat} (hs1 : s1 < 4) : zd S 74 59 [some (.ref 4), some (.ref (7 + 12 * s1))] [.int t0] I J k = if ¬ t0 = 0 then zd S 74 64 [some (.ref 4), some (.ref (7 + 12 * s1))] [] I J k else zd S 74 62 [some (.ref 4), some (.ref (7 + 12 * s1))] [] I J k := by
  refine (tt_f rfl).trans ?_
  exact tt_f1 (p := fun x => ¬ x = 0) inferInstance rfl
theorem B74_62 {s1 : Nat} (hs1 : s1 < 4) (hz : zrt 2 (.int 0) = true) : zd S 74 62 [some (.ref 4), some (.ref (7 + 12 * s1))] [] I J k = some ((some (.int 0)), mk I J, k) := by
  refine (tt_f rfl).trans ?_
  refine tt_c.trans ?_
  exact tt_r1 rfl hz
theorem B74_64 {s1 : Nat} (hs1 : s1 < 4) (hi1 : zin (I (7 + 12 * s1) 11) 4 = true) : zd S 74 64 [some (.ref 4), some (.ref (7 + 12 * s1))] [] I J k = zd S 74 77 [some (.ref 4), some (.ref (7 + 12 * s1))] [] (u2 I (9 + 12 * s1) (I (7 + 12 * s1) 11).toNatClampNeg (I 4 3)) J k := by
  refine (tt_f rfl).trans ?_
  refine (tt_al rfl).trans ?_
  refine (tt_f rfl).trans ?_
  refine (tt_gr (shS hs1) rfl).trans ?_
  refine (tt_f rfl).trans ?_
  refine (tt_al rfl).trans ?_
  refine (tt_f rfl).trans ?_
  refine (tt_gi (shS hs1) rfl).trans ?_
  refine (tt_f rfl).trans ?_
  refine (tt_al rfl).trans ?_
  refine (tt_f rfl).trans ?_
  refine (tt_gi rfl rfl).trans ?_
  refine (tt_f rfl).trans ?_
  exact tt_pa (shS2 hs1) rfl hi1
theorem B74_77 {s1 : Nat} (hs1 : s1 < 4) : zd S 74 77 [some (.ref 4), some (.ref (7 + 12 * s1))] [] I J k = zd S 74 87 [some (.ref 4), some (.ref (7 + 12 * s1))] [] (u2 I (7 + 12 * s1) 11 ((I (7 + 12 * s1) 11) + 1)) J k := by
  refine (tt_f rfl).trans ?_
  refine (tt_al rfl).trans ?_
  refine (tt_f rfl).trans ?_
  refine (tt_dup rfl).trans ?_
  refine (tt_f rfl).trans ?_
  refine (tt_gi (shS hs1) rfl).trans ?_
  refine (tt_f rfl).trans ?_
  refine tt_c.trans ?_
  refine (tt_f rfl).trans ?_
  refine tt_bi.trans ?_
  refine (tt_f rfl).trans ?_
  exact tt_pi (shS hs1) rfl rfl
theorem B74_87 {s1 : Nat} {v1 : Int32} {I2 : zI} {J3 : zJ} (hb : Nat.ble k.1 (mBu 74).1 = true ∧ Nat.ble k.2 (mBu 74).2 = true) (hs1 : s1 < 4) (hq : zq S 78 [.ref 4, .int 10] I J (some (.int v1)) I2 J3) : zd S 74 87 [some (.ref 4), some (.ref (7 + 12 * s1))] [] I J k = zd S 74 93 [some (.ref 4), some (.ref (7 + 12 * s1))] [.int v1] I2 J3 k := by
  refine (tt_f rfl).trans ?_
  refine (tt_al rfl).trans ?_
  refine (tt_f rfl).trans ?_
  refine tt_c.trans ?_
  exact tt_cv (As := [.int 10]) rfl hb.1 hb.2 rfl rfl rfl rfl rfl hq
theorem B74_93 {t0 : Int32} {s1 : Nat} (hs1 : s1 < 4) (hz : zrt 2 (.int t0) = true) : zd S 74 93 [some (.ref 4), some (.ref (7 + 12 * s1))] [.int t0] I J k = some ((some (.int t0)), mk I J, k) := by
  exact tt_r1 rfl hz
/-! 75: Reader.readFigure -/
theorem B75_0 {s1 : Nat} (hs1 : s1 < 4) : zd S 75 0 [some (.ref 4), some (.ref (7 + 12 * s1))] [] I J k = zd S 75 10 [some (.ref 4), some (.ref (7 + 12 * s1))] [] (u2 I 4 3 ((I 4 3) + 1)) J k := by
  refine (tt_f rfl).trans ?_
  refine (tt_al rfl).trans ?_
  refine (tt_f rfl).trans ?_
  refine (tt_dup rfl).trans ?_
  refine (tt_f rfl).trans ?_
  refine (tt_gi rfl rfl).trans ?_
  refine (tt_f rfl).trans ?_
  refine tt_c.trans ?_
  refine (tt_f rfl).trans ?_
  refine tt_bi.trans ?_
  refine (tt_f rfl).trans ?_
  exact tt_pi rfl rfl rfl
theorem B75_10 {s1 : Nat} {v1 : Int32} {I2 : zI} {J3 : zJ} (hb : Nat.ble k.1 (mBu 75).1 = true ∧ Nat.ble k.2 (mBu 75).2 = true) (hs1 : s1 < 4) (hq : zq S 79 [.ref 4] I J (some (.int v1)) I2 J3) : zd S 75 10 [some (.ref 4), some (.ref (7 + 12 * s1))] [] I J k = zd S 75 14 [some (.ref 4), some (.ref (7 + 12 * s1))] [.int v1] I2 J3 k := by
  refine (tt_f rfl).trans ?_
  refine (tt_al rfl).trans ?_
  exact tt_cv (As := []) rfl hb.1 hb.2 rfl rfl rfl rfl rfl hq
theorem B75_14 {t0 : Int32} {s1 : Nat} {v1 : Int32} {I2 : zI} {J3 : zJ} (hb : Nat.ble k.1 (mBu 75).1 = true ∧ Nat.ble k.2 (mBu 75).2 = true) (hs1 : s1 < 4) (hq : zq S 20 [.int t0, .int 1] I J (some (.int v1)) I2 J3) : zd S 75 14 [some (.ref 4), some (.ref (7 + 12 * s1))] [.int t0] I J k = zd S 75 18 [some (.ref 4), some (.ref (7 + 12 * s1))] [.int v1] I2 J3 k := by
  refine (tt_f rfl).trans ?_
  refine tt_c.trans ?_
  exact tt_cs (vs := [.int t0, .int 1]) rfl hb.1 hb.2 rfl rfl rfl rfl hq
theorem B75_18 {t0 : Int32} {s1 : Nat} (hs1 : s1 < 4) : zd S 75 18 [some (.ref 4), some (.ref (7 + 12 * s1))] [.int t0] I J k = if ¬ t0 = 0 then zd S 75 23 [some (.ref 4), some (.ref (7 + 12 * s1))] [] I J k else zd S 75 21 [some (.ref 4), some (.ref (7 + 12 * s1))] [] I J k := by
  refine (tt_f rfl).trans ?_
  exact tt_f1 (p := fun x => ¬ x = 0) inferInstance rfl
theorem B75_21 {s1 : Nat} (hs1 : s1 < 4) (hz : zrt 2 (.int 0) = true) : zd S 75 21 [some (.ref 4), some (.ref (7 + 12 * s1))] [] I J k = some ((some (.int 0)), mk I J, k) := by
  refine (tt_f rfl).trans ?_
  refine tt_c.trans ?_
  exact tt_r1 rfl hz
theorem B75_23 {s1 : Nat} {v1 : Int32} {I2 : zI} {J3 : zJ} (hb : Nat.ble k.1 (mBu 75).1 = true ∧ Nat.ble k.2 (mBu 75).2 = true) (hs1 : s1 < 4) (hq : zq S 79 [.ref 4] I J (some (.int v1)) I2 J3) : zd S 75 23 [some (.ref 4), some (.ref (7 + 12 * s1))] [] I J k = zd S 75 28 [some (.ref 4), some (.ref (7 + 12 * s1))] [.int v1, .ref (7 + 12 * s1)] I2 J3 k := by
  refine (tt_f rfl).trans ?_
  refine (tt_al rfl).trans ?_
  refine (tt_f rfl).trans ?_
  refine (tt_al rfl).trans ?_
  exact tt_cv (As := []) rfl hb.1 hb.2 rfl rfl rfl rfl rfl hq
theorem B75_28 {t1 : Int32} {s1 : Nat} (hs1 : s1 < 4) : zd S 75 28 [some (.ref 4), some (.ref (7 + 12 * s1))] [.int t1, .ref (7 + 12 * s1)] I J k = zd S 75 34 [some (.ref 4), some (.ref (7 + 12 * s1))] [] (u2 I (7 + 12 * s1) 12 (t1 - 48)) J k := by
  refine (tt_f rfl).trans ?_
  refine tt_c.trans ?_
  refine (tt_f rfl).trans ?_
  refine tt_bi.trans ?_
  refine (tt_f rfl).trans ?_
  exact tt_pi (shS hs1) rfl rfl
theorem B75_34 {s1 : Nat} (hs1 : s1 < 4) : zd S 75 34 [some (.ref 4), some (.ref (7 + 12 * s1))] [] I J k = zd S 75 44 [some (.ref 4), some (.ref (7 + 12 * s1))] [] (u2 I 4 3 ((I 4 3) + 1)) J k := by
  refine (tt_f rfl).trans ?_
  refine (tt_al rfl).trans ?_
  refine (tt_f rfl).trans ?_
  refine (tt_dup rfl).trans ?_
  refine (tt_f rfl).trans ?_
  refine (tt_gi rfl rfl).trans ?_
  refine (tt_f rfl).trans ?_
  refine tt_c.trans ?_
  refine (tt_f rfl).trans ?_
  refine tt_bi.trans ?_
  refine (tt_f rfl).trans ?_
  exact tt_pi rfl rfl rfl
theorem B75_44 {s1 : Nat} {v1 : Int32} {I2 : zI} {J3 : zJ} (hb : Nat.ble k.1 (mBu 75).1 = true ∧ Nat.ble k.2 (mBu 75).2 = true) (hs1 : s1 < 4) (hq : zq S 79 [.ref 4] I J (some (.int v1)) I2 J3) : zd S 75 44 [some (.ref 4), some (.ref (7 + 12 * s1))] [] I J k = zd S 75 48 [some (.ref 4), some (.ref (7 + 12 * s1))] [.int v1] I2 J3 k := by
  refine (tt_f rfl).trans ?_
  refine (tt_al rfl).trans ?_
  exact tt_cv (As := []) rfl hb.1 hb.2 rfl rfl rfl rfl rfl hq
theorem B75_48 {t0 : Int32} {s1 : Nat} {v1 : Int32} {I2 : zI} {J3 : zJ} (hb : Nat.ble k.1 (mBu 75).1 = true ∧ Nat.ble k.2 (mBu 75).2 = true) (hs1 : s1 < 4) (hq : zq S 20 [.int t0, .int 1] I J (some (.int v1)) I2 J3) : zd S 75 48 [some (.ref 4), some (.ref (7 + 12 * s1))] [.int t0] I J k = zd S 75 52 [some (.ref 4), some (.ref (7 + 12 * s1))] [.int v1] I2 J3 k := by
  refine (tt_f rfl).trans ?_
  refine tt_c.trans ?_
  exact tt_cs (vs := [.int t0, .int 1]) rfl hb.1 hb.2 rfl rfl rfl rfl hq
theorem B75_52 {t0 : Int32} {s1 : Nat} (hs1 : s1 < 4) : zd S 75 52 [some (.ref 4), some (.ref (7 + 12 * s1))] [.int t0] I J k = if ¬ t0 = 0 then zd S 75 57 [some (.ref 4), some (.ref (7 + 12 * s1))] [] I J k else zd S 75 55 [some (.ref 4), some (.ref (7 + 12 * s1))] [] I J k := by
  refine (tt_f rfl).trans ?_
  exact tt_f1 (p := fun x => ¬ x = 0) inferInstance rfl
theorem B75_55 {s1 : Nat} (hs1 : s1 < 4) (hz : zrt 2 (.int 0) = true) : zd S 75 55 [some (.ref 4), some (.ref (7 + 12 * s1))] [] I J k = some ((some (.int 0)), mk I J, k) := by
  refine (tt_f rfl).trans ?_
  refine tt_c.trans ?_
  exact tt_r1 rfl hz
theorem B75_57 {s1 : Nat} {v1 : Int32} {I2 : zI} {J3 : zJ} (hb : Nat.ble k.1 (mBu 75).1 = true ∧ Nat.ble k.2 (mBu 75).2 = true) (hs1 : s1 < 4) (hq : zq S 79 [.ref 4] I J (some (.int v1)) I2 J3) : zd S 75 57 [some (.ref 4), some (.ref (7 + 12 * s1))] [] I J k = zd S 75 62 [some (.ref 4), some (.ref (7 + 12 * s1))] [.int v1, .ref (7 + 12 * s1)] I2 J3 k := by
  refine (tt_f rfl).trans ?_
  refine (tt_al rfl).trans ?_
  refine (tt_f rfl).trans ?_
  refine (tt_al rfl).trans ?_
  exact tt_cv (As := []) rfl hb.1 hb.2 rfl rfl rfl rfl rfl hq
theorem B75_62 {t1 : Int32} {s1 : Nat} (hs1 : s1 < 4) : zd S 75 62 [some (.ref 4), some (.ref (7 + 12 * s1))] [.int t1, .ref (7 + 12 * s1)] I J k = zd S 75 68 [some (.ref 4), some (.ref (7 + 12 * s1))] [] (u2 I (7 + 12 * s1) 13 (t1 - 48)) J k := by
  refine (tt_f rfl).trans ?_
  refine tt_c.trans ?_
  refine (tt_f rfl).trans ?_
  refine tt_bi.trans ?_
  refine (tt_f rfl).trans ?_
  exact tt_pi (shS hs1) rfl rfl
theorem B75_68 {s1 : Nat} (hs1 : s1 < 4) : zd S 75 68 [some (.ref 4), some (.ref (7 + 12 * s1))] [] I J k = zd S 75 78 [some (.ref 4), some (.ref (7 + 12 * s1))] [] (u2 I 4 3 ((I 4 3) + 1)) J k := by
  refine (tt_f rfl).trans ?_
  refine (tt_al rfl).trans ?_
  refine (tt_f rfl).trans ?_
  refine (tt_dup rfl).trans ?_
  refine (tt_f rfl).trans ?_
  refine (tt_gi rfl rfl).trans ?_
  refine (tt_f rfl).trans ?_
  refine tt_c.trans ?_
  refine (tt_f rfl).trans ?_
  refine tt_bi.trans ?_
  refine (tt_f rfl).trans ?_
  exact tt_pi rfl rfl rfl
theorem B75_78 {s1 : Nat} {v1 : Int32} {I2 : zI} {J3 : zJ} (hb : Nat.ble k.1 (mBu 75).1 = true ∧ Nat.ble k.2 (mBu 75).2 = true) (hs1 : s1 < 4) (hq : zq S 78 [.ref 4, .int 10] I J (some (.int v1)) I2 J3) : zd S 75 78 [some (.ref 4), some (.ref (7 + 12 * s1))] [] I J k = zd S 75 84 [some (.ref 4), some (.ref (7 + 12 * s1))] [.int v1] I2 J3 k := by
  refine (tt_f rfl).trans ?_
  refine (tt_al rfl).trans ?_
  refine (tt_f rfl).trans ?_
  refine tt_c.trans ?_
  exact tt_cv (As := [.int 10]) rfl hb.1 hb.2 rfl rfl rfl rfl rfl hq
theorem B75_84 {t0 : Int32} {s1 : Nat} (hs1 : s1 < 4) (hz : zrt 2 (.int t0) = true) : zd S 75 84 [some (.ref 4), some (.ref (7 + 12 * s1))] [.int t0] I J k = some ((some (.int t0)), mk I J, k) := by
  exact tt_r1 rfl hz
/-! 76: Reader.readWords -/
theorem B76_0 {l1 : Int32}  : zd S 76 0 [some (.ref 4), some (.int l1), none] [] I J k = zd S 76 2 [some (.ref 4), some (.int l1), some (.int 0)] [] I J k := by
  refine (tt_f rfl).trans ?_
  refine tt_c.trans ?_
  refine (tt_f rfl).trans ?_
  refine (tt_is rfl rfl).trans ?_
  rfl
theorem B76_2 {l1 : Int32} {l2 : Int32}  : zd S 76 2 [some (.ref 4), some (.int l1), some (.int l2)] [] I J k = if l1 ≤ l2 then zd S 76 33 [some (.ref 4), some (.int l1), some (.int l2)] [] I J k else zd S 76 7 [some (.ref 4), some (.int l1), some (.int l2)] [] I J k := by
  refine (tt_fk rfl rfl).trans ?_
  refine (tt_il rfl).trans ?_
  refine (tt_f rfl).trans ?_
  refine (tt_il rfl).trans ?_
  refine (tt_f rfl).trans ?_
  exact tt_f2 (p := fun x y => y ≤ x) inferInstance rfl
theorem B76_7 {l1 : Int32} {l2 : Int32} {v1 : Int32} {I2 : zI} {J3 : zJ} (hb : Nat.ble k.1 (mBu 76).1 = true ∧ Nat.ble k.2 (mBu 76).2 = true) (hq : zq S 77 [.ref 4] I J (some (.int v1)) I2 J3) : zd S 76 7 [some (.ref 4), some (.int l1), some (.int l2)] [] I J k = zd S 76 11 [some (.ref 4), some (.int l1), some (.int l2)] [.int v1] I2 J3 k := by
  refine (tt_f rfl).trans ?_
  refine (tt_al rfl).trans ?_
  exact tt_cv (As := []) rfl hb.1 hb.2 rfl rfl rfl rfl rfl hq
theorem B76_11 {l1 : Int32} {l2 : Int32} {t0 : Int32}  : zd S 76 11 [some (.ref 4), some (.int l1), some (.int l2)] [.int t0] I J k = if ¬ t0 = 0 then zd S 76 16 [some (.ref 4), some (.int l1), some (.int l2)] [] I J k else zd S 76 14 [some (.ref 4), some (.int l1), some (.int l2)] [] I J k := by
  refine (tt_f rfl).trans ?_
  exact tt_f1 (p := fun x => ¬ x = 0) inferInstance rfl
theorem B76_14 {l1 : Int32} {l2 : Int32} (hz : zrt 2 (.int 0) = true) : zd S 76 14 [some (.ref 4), some (.int l1), some (.int l2)] [] I J k = some ((some (.int 0)), mk I J, k) := by
  refine (tt_f rfl).trans ?_
  refine tt_c.trans ?_
  exact tt_r1 rfl hz
theorem B76_16 {l1 : Int32} {l2 : Int32} {v1 : Int32} {I2 : zI} {J3 : zJ} (hb : Nat.ble k.1 (mBu 76).1 = true ∧ Nat.ble k.2 (mBu 76).2 = true) (hq : zq S 78 [.ref 4, .int 32] I J (some (.int v1)) I2 J3) : zd S 76 16 [some (.ref 4), some (.int l1), some (.int l2)] [] I J k = zd S 76 22 [some (.ref 4), some (.int l1), some (.int l2)] [.int v1] I2 J3 k := by
  refine (tt_f rfl).trans ?_
  refine (tt_al rfl).trans ?_
  refine (tt_f rfl).trans ?_
  refine tt_c.trans ?_
  exact tt_cv (As := [.int 32]) rfl hb.1 hb.2 rfl rfl rfl rfl rfl hq
theorem B76_22 {l1 : Int32} {l2 : Int32} {t0 : Int32}  : zd S 76 22 [some (.ref 4), some (.int l1), some (.int l2)] [.int t0] I J k = if ¬ t0 = 0 then zd S 76 27 [some (.ref 4), some (.int l1), some (.int l2)] [] I J k else zd S 76 25 [some (.ref 4), some (.int l1), some (.int l2)] [] I J k := by
  refine (tt_f rfl).trans ?_
  exact tt_f1 (p := fun x => ¬ x = 0) inferInstance rfl
theorem B76_25 {l1 : Int32} {l2 : Int32} (hz : zrt 2 (.int 1) = true) : zd S 76 25 [some (.ref 4), some (.int l1), some (.int l2)] [] I J k = some ((some (.int 1)), mk I J, k) := by
  refine (tt_f rfl).trans ?_
  refine tt_c.trans ?_
  exact tt_r1 rfl hz
theorem B76_27 {l1 : Int32} {l2 : Int32}  : zd S 76 27 [some (.ref 4), some (.int l1), some (.int l2)] [] I J k = zd S 76 2 [some (.ref 4), some (.int l1), some (.int (l2 + 1))] [] I J k := by
  refine (tt_f rfl).trans ?_
  refine (tt_in rfl rfl).trans ?_
  refine (tt_f rfl).trans ?_
  refine tt_go.trans ?_
  rfl
theorem B76_33 {l1 : Int32} {l2 : Int32} (hz : zrt 2 (.int 0) = true) : zd S 76 33 [some (.ref 4), some (.int l1), some (.int l2)] [] I J k = some ((some (.int 0)), mk I J, k) := by
  refine (tt_f rfl).trans ?_
  refine tt_c.trans ?_
  exact tt_r1 rfl hz
/-! 77: Reader.readWord -/
theorem B77_0   : zd S 77 0 [some (.ref 4), none] [] I J k = zd S 77 2 [some (.ref 4), some (.int 0)] [] I J k := by
  refine (tt_f rfl).trans ?_
  refine tt_c.trans ?_
  refine (tt_f rfl).trans ?_
  refine (tt_is rfl rfl).trans ?_
  rfl
theorem B77_2 {l1 : Int32}  : zd S 77 2 [some (.ref 4), some (.int l1)] [] I J k = if 12 ≤ l1 then zd S 77 34 [some (.ref 4), some (.int l1)] [] I J k else zd S 77 8 [some (.ref 4), some (.int l1)] [] I J k := by
  refine (tt_fk rfl rfl).trans ?_
  refine (tt_il rfl).trans ?_
  refine (tt_f rfl).trans ?_
  refine tt_c.trans ?_
  refine (tt_f rfl).trans ?_
  exact tt_f2 (p := fun x y => y ≤ x) inferInstance rfl
theorem B77_8 {l1 : Int32} {v1 : Int32} {I2 : zI} {J3 : zJ} (hb : Nat.ble k.1 (mBu 77).1 = true ∧ Nat.ble k.2 (mBu 77).2 = true) (hq : zq S 79 [.ref 4] I J (some (.int v1)) I2 J3) : zd S 77 8 [some (.ref 4), some (.int l1)] [] I J k = zd S 77 12 [some (.ref 4), some (.int l1)] [.int v1] I2 J3 k := by
  refine (tt_f rfl).trans ?_
  refine (tt_al rfl).trans ?_
  exact tt_cv (As := []) rfl hb.1 hb.2 rfl rfl rfl rfl rfl hq
theorem B77_12 {l1 : Int32} {t0 : Int32} {v1 : Int32} {I2 : zI} {J3 : zJ} (hb : Nat.ble k.1 (mBu 77).1 = true ∧ Nat.ble k.2 (mBu 77).2 = true) (hq : zq S 19 [.int t0] I J (some (.int v1)) I2 J3) : zd S 77 12 [some (.ref 4), some (.int l1)] [.int t0] I J k = zd S 77 15 [some (.ref 4), some (.int l1)] [.int v1] I2 J3 k := by
  exact tt_cs (vs := [.int t0]) rfl hb.1 hb.2 rfl rfl rfl rfl hq
theorem B77_15 {l1 : Int32} {t0 : Int32}  : zd S 77 15 [some (.ref 4), some (.int l1)] [.int t0] I J k = if t0 = 0 then zd S 77 34 [some (.ref 4), some (.int l1)] [] I J k else zd S 77 18 [some (.ref 4), some (.int l1)] [] I J k := by
  refine (tt_f rfl).trans ?_
  exact tt_f1 (p := fun x => x = 0) inferInstance rfl
theorem B77_18 {l1 : Int32}  : zd S 77 18 [some (.ref 4), some (.int l1)] [] I J k = zd S 77 31 [some (.ref 4), some (.int (l1 + 1))] [] (u2 I 4 3 ((I 4 3) + 1)) J k := by
  refine (tt_f rfl).trans ?_
  refine (tt_in rfl rfl).trans ?_
  refine (tt_f rfl).trans ?_
  refine (tt_al rfl).trans ?_
  refine (tt_f rfl).trans ?_
  refine (tt_dup rfl).trans ?_
  refine (tt_f rfl).trans ?_
  refine (tt_gi rfl rfl).trans ?_
  refine (tt_f rfl).trans ?_
  refine tt_c.trans ?_
  refine (tt_f rfl).trans ?_
  refine tt_bi.trans ?_
  refine (tt_f rfl).trans ?_
  exact tt_pi rfl rfl rfl
theorem B77_31 {l1 : Int32}  : zd S 77 31 [some (.ref 4), some (.int l1)] [] I J k = zd S 77 2 [some (.ref 4), some (.int l1)] [] I J k := by
  refine (tt_f rfl).trans ?_
  refine tt_go.trans ?_
  rfl
theorem B77_34 {l1 : Int32}  : zd S 77 34 [some (.ref 4), some (.int l1)] [] I J k = if l1 ≤ 0 then zd S 77 52 [some (.ref 4), some (.int l1)] [] I J k else zd S 77 38 [some (.ref 4), some (.int l1)] [] I J k := by
  refine (tt_fk rfl rfl).trans ?_
  refine (tt_il rfl).trans ?_
  refine (tt_f rfl).trans ?_
  exact tt_f1 (p := fun x => x ≤ 0) inferInstance rfl
theorem B77_38 {l1 : Int32} {v1 : Int32} {I2 : zI} {J3 : zJ} (hb : Nat.ble k.1 (mBu 77).1 = true ∧ Nat.ble k.2 (mBu 77).2 = true) (hq : zq S 79 [.ref 4] I J (some (.int v1)) I2 J3) : zd S 77 38 [some (.ref 4), some (.int l1)] [] I J k = zd S 77 42 [some (.ref 4), some (.int l1)] [.int v1] I2 J3 k := by
  refine (tt_f rfl).trans ?_
  refine (tt_al rfl).trans ?_
  exact tt_cv (As := []) rfl hb.1 hb.2 rfl rfl rfl rfl rfl hq
theorem B77_42 {l1 : Int32} {t0 : Int32} {v1 : Int32} {I2 : zI} {J3 : zJ} (hb : Nat.ble k.1 (mBu 77).1 = true ∧ Nat.ble k.2 (mBu 77).2 = true) (hq : zq S 19 [.int t0] I J (some (.int v1)) I2 J3) : zd S 77 42 [some (.ref 4), some (.int l1)] [.int t0] I J k = zd S 77 45 [some (.ref 4), some (.int l1)] [.int v1] I2 J3 k := by
  exact tt_cs (vs := [.int t0]) rfl hb.1 hb.2 rfl rfl rfl rfl hq
theorem B77_45 {l1 : Int32} {t0 : Int32}  : zd S 77 45 [some (.ref 4), some (.int l1)] [.int t0] I J k = if ¬ t0 = 0 then zd S 77 52 [some (.ref 4), some (.int l1)] [] I J k else zd S 77 48 [some (.ref 4), some (.int l1)] [] I J k := by
  refine (tt_f rfl).trans ?_
  exact tt_f1 (p := fun x => ¬ x = 0) inferInstance rfl
theorem B77_48 {l1 : Int32} (hz : zrt 2 (.int 1) = true) : zd S 77 48 [some (.ref 4), some (.int l1)] [] I J k = some ((some (.int 1)), mk I J, k) := by
  refine (tt_f rfl).trans ?_
  refine tt_c.trans ?_
  refine (tt_f rfl).trans ?_
  refine tt_go.trans ?_
  exact tt_r1 rfl hz
theorem B77_52 {l1 : Int32} (hz : zrt 2 (.int 0) = true) : zd S 77 52 [some (.ref 4), some (.int l1)] [] I J k = some ((some (.int 0)), mk I J, k) := by
  refine (tt_fk rfl rfl).trans ?_
  refine tt_c.trans ?_
  exact tt_r1 rfl hz
/-! 78: Reader.pass -/
theorem B78_0 {l1 : Int32} {v1 : Int32} {I2 : zI} {J3 : zJ} (hb : Nat.ble k.1 (mBu 78).1 = true ∧ Nat.ble k.2 (mBu 78).2 = true) (hq : zq S 79 [.ref 4] I J (some (.int v1)) I2 J3) : zd S 78 0 [some (.ref 4), some (.int l1)] [] I J k = zd S 78 4 [some (.ref 4), some (.int l1)] [.int v1] I2 J3 k := by
  refine (tt_f rfl).trans ?_
  refine (tt_al rfl).trans ?_
  exact tt_cv (As := []) rfl hb.1 hb.2 rfl rfl rfl rfl rfl hq
theorem B78_4 {l1 : Int32} {t0 : Int32}  : zd S 78 4 [some (.ref 4), some (.int l1)] [.int t0] I J k = if t0 = l1 then zd S 78 10 [some (.ref 4), some (.int l1)] [] I J k else zd S 78 8 [some (.ref 4), some (.int l1)] [] I J k := by
  refine (tt_f rfl).trans ?_
  refine (tt_il rfl).trans ?_
  refine (tt_f rfl).trans ?_
  exact tt_f2 (p := fun x y => x = y) inferInstance rfl
theorem B78_8 {l1 : Int32} (hz : zrt 2 (.int 0) = true) : zd S 78 8 [some (.ref 4), some (.int l1)] [] I J k = some ((some (.int 0)), mk I J, k) := by
  refine (tt_f rfl).trans ?_
  refine tt_c.trans ?_
  exact tt_r1 rfl hz
theorem B78_10 {l1 : Int32}  : zd S 78 10 [some (.ref 4), some (.int l1)] [] I J k = zd S 78 20 [some (.ref 4), some (.int l1)] [] (u2 I 4 3 ((I 4 3) + 1)) J k := by
  refine (tt_f rfl).trans ?_
  refine (tt_al rfl).trans ?_
  refine (tt_f rfl).trans ?_
  refine (tt_dup rfl).trans ?_
  refine (tt_f rfl).trans ?_
  refine (tt_gi rfl rfl).trans ?_
  refine (tt_f rfl).trans ?_
  refine tt_c.trans ?_
  refine (tt_f rfl).trans ?_
  refine tt_bi.trans ?_
  refine (tt_f rfl).trans ?_
  exact tt_pi rfl rfl rfl
theorem B78_20 {l1 : Int32} (hz : zrt 2 (.int 1) = true) : zd S 78 20 [some (.ref 4), some (.int l1)] [] I J k = some ((some (.int 1)), mk I J, k) := by
  refine (tt_f rfl).trans ?_
  refine tt_c.trans ?_
  exact tt_r1 rfl hz
end BL
