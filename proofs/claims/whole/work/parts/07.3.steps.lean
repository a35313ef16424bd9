theorem d87_0 : decode (mB 87) 0 = .ok (.iconst 0, 1) := by decide +kernel
theorem d87_1 : decode (mB 87) 1 = .ok (.istore 4, 2) := by decide +kernel
theorem d87_3 : decode (mB 87) 3 = .ok (.iload_n 2, 1) := by decide +kernel
theorem d87_4 : decode (mB 87) 4 = .ok (.istore 5, 2) := by decide +kernel
theorem d87_6 : decode (mB 87) 6 = .ok (.iload 5, 2) := by decide +kernel
theorem d87_8 : decode (mB 87) 8 = .ok (.iload_n 2, 1) := by decide +kernel
theorem d87_9 : decode (mB 87) 9 = .ok (.iload_n 3, 1) := by decide +kernel
theorem d87_10 : decode (mB 87) 10 = .ok (.iadd, 1) := by decide +kernel
theorem d87_11 : decode (mB 87) 11 = .ok (.if_icmp .ge 25, 3) := by decide +kernel
theorem d87_14 : decode (mB 87) 14 = .ok (.iload 4, 2) := by decide +kernel
theorem d87_16 : decode (mB 87) 16 = .ok (.aload_n 0, 1) := by decide +kernel
theorem d87_17 : decode (mB 87) 17 = .ok (.getfield 15, 3) := by decide +kernel
theorem d87_20 : decode (mB 87) 20 = .ok (.iload_n 1, 1) := by decide +kernel
theorem d87_21 : decode (mB 87) 21 = .ok (.iconst 4, 1) := by decide +kernel
theorem d87_22 : decode (mB 87) 22 = .ok (.imul, 1) := by decide +kernel
theorem d87_23 : decode (mB 87) 23 = .ok (.iload 5, 2) := by decide +kernel
theorem d87_25 : decode (mB 87) 25 = .ok (.iadd, 1) := by decide +kernel
theorem d87_26 : decode (mB 87) 26 = .ok (.iaload, 1) := by decide +kernel
theorem d87_27 : decode (mB 87) 27 = .ok (.ior, 1) := by decide +kernel
theorem d87_28 : decode (mB 87) 28 = .ok (.istore 4, 2) := by decide +kernel
theorem d87_30 : decode (mB 87) 30 = .ok (.iinc 5 1, 3) := by decide +kernel
theorem d87_33 : decode (mB 87) 33 = .ok (.goto (-27), 3) := by decide +kernel
theorem d87_36 : decode (mB 87) 36 = .ok (.iload 4, 2) := by decide +kernel
theorem d87_38 : decode (mB 87) 38 = .ok (.ireturn, 1) := by decide +kernel
theorem v87_0 (L : Nat) (xs : Nat → Int32) : zVal L xs 87 0 (.inl (i_c (.int 0) 1)) := zS_iconst d87_0 (by decide)
theorem v87_1 (L : Nat) (xs : Nat → Int32) : zVal L xs 87 1 (.inl (i_is 4 3)) := zS_istore d87_1
theorem v87_3 (L : Nat) (xs : Nat → Int32) : zVal L xs 87 3 (.inl (i_il 2 4)) := zS_iload_n d87_3 rfl
theorem v87_4 (L : Nat) (xs : Nat → Int32) : zVal L xs 87 4 (.inl (i_is 5 6)) := zS_istore d87_4
theorem v87_6 (L : Nat) (xs : Nat → Int32) : zVal L xs 87 6 (.inl (i_k [false, false, false, false, false, false] (i_il 5 8))) := zS_k (zS_iload d87_6)
theorem v87_8 (L : Nat) (xs : Nat → Int32) : zVal L xs 87 8 (.inl (i_il 2 9)) := zS_iload_n d87_8 rfl
theorem v87_9 (L : Nat) (xs : Nat → Int32) : zVal L xs 87 9 (.inl (i_il 3 10)) := zS_iload_n d87_9 rfl
theorem v87_10 (L : Nat) (xs : Nat → Int32) : zVal L xs 87 10 (.inl (i_bi (fun x y => x + y) 11)) := zS_iadd d87_10
theorem v87_11 (L : Nat) (xs : Nat → Int32) : zVal L xs 87 11 (.inl (i_f2 (fun x y => decide (y ≤ x)) 36 14)) := zS_icmp_ge d87_11 (by decide)
theorem v87_14 (L : Nat) (xs : Nat → Int32) : zVal L xs 87 14 (.inl (i_il 4 16)) := zS_iload d87_14
theorem v87_16 (L : Nat) (xs : Nat → Int32) : zVal L xs 87 16 (.inl (i_al 0 17)) := zS_aload_n d87_16 rfl
theorem v87_17 (L : Nat) (xs : Nat → Int32) : zVal L xs 87 17 (.inl (i_gf 8 3 20)) := zS_getf d87_17 (zcl8) (by decide) zi8 w357
theorem v87_20 (L : Nat) (xs : Nat → Int32) : zVal L xs 87 20 (.inl (i_il 1 21)) := zS_iload_n d87_20 rfl
theorem v87_21 (L : Nat) (xs : Nat → Int32) : zVal L xs 87 21 (.inl (i_c (.int 4) 22)) := zS_iconst d87_21 (by decide)
theorem v87_22 (L : Nat) (xs : Nat → Int32) : zVal L xs 87 22 (.inl (i_bi (fun x y => x * y) 23)) := zS_imul d87_22
theorem v87_23 (L : Nat) (xs : Nat → Int32) : zVal L xs 87 23 (.inl (i_il 5 25)) := zS_iload d87_23
theorem v87_25 (L : Nat) (xs : Nat → Int32) : zVal L xs 87 25 (.inl (i_bi (fun x y => x + y) 26)) := zS_iadd d87_25
theorem v87_26 (L : Nat) (xs : Nat → Int32) : zVal L xs 87 26 (.inl (i_ga 0 27)) := zS_iald d87_26
theorem v87_27 (L : Nat) (xs : Nat → Int32) : zVal L xs 87 27 (.inl (i_bi (fun x y => x ||| y) 28)) := zS_ior d87_27
theorem v87_28 (L : Nat) (xs : Nat → Int32) : zVal L xs 87 28 (.inl (i_is 4 30)) := zS_istore d87_28
theorem v87_30 (L : Nat) (xs : Nat → Int32) : zVal L xs 87 30 (.inl (i_in 5 1 33)) := zS_iinc d87_30 (by decide)
theorem v87_33 (L : Nat) (xs : Nat → Int32) : zVal L xs 87 33 (.inl (i_go 6)) := zS_goto d87_33 (by decide)
theorem v87_36 (L : Nat) (xs : Nat → Int32) : zVal L xs 87 36 (.inl (i_il 4 38)) := zS_iload d87_36
theorem v87_38 (L : Nat) (xs : Nat → Int32) : zVal L xs 87 38 (.inr (.inr 1)) := zr_1 d87_38 rfl
theorem vt87 (L : Nat) (xs : Nat → Int32) : zAll (fun x => zVal L xs 87 x.1 x.2) (tb87) := ⟨v87_0 L xs, v87_1 L xs, v87_3 L xs, v87_4 L xs, v87_6 L xs, v87_8 L xs, v87_9 L xs, v87_10 L xs, v87_11 L xs, v87_14 L xs, v87_16 L xs, v87_17 L xs, v87_20 L xs, v87_21 L xs, v87_22 L xs, v87_23 L xs, v87_25 L xs, v87_26 L xs, v87_27 L xs, v87_28 L xs, v87_30 L xs, v87_33 L xs, v87_36 L xs, v87_38 L xs, trivial⟩
theorem d88_0 : decode (mB 88) 0 = .ok (.aload_n 0, 1) := by decide +kernel
theorem d88_1 : decode (mB 88) 1 = .ok (.invokespecial 3, 3) := by decide +kernel
theorem d88_4 : decode (mB 88) 4 = .ok (.aload_n 0, 1) := by decide +kernel
theorem d88_5 : decode (mB 88) 5 = .ok (.iconst 4, 1) := by decide +kernel
theorem d88_6 : decode (mB 88) 6 = .ok (.newarray .int, 2) := by decide +kernel
theorem d88_8 : decode (mB 88) 8 = .ok (.putfield 9, 3) := by decide +kernel
theorem d88_11 : decode (mB 88) 11 = .ok (.aload_n 0, 1) := by decide +kernel
theorem d88_12 : decode (mB 88) 12 = .ok (.iconst 4, 1) := by decide +kernel
theorem d88_13 : decode (mB 88) 13 = .ok (.newarray .int, 2) := by decide +kernel
theorem d88_15 : decode (mB 88) 15 = .ok (.putfield 15, 3) := by decide +kernel
theorem d88_18 : decode (mB 88) 18 = .ok (.aload_n 0, 1) := by decide +kernel
theorem d88_19 : decode (mB 88) 19 = .ok (.iconst 4, 1) := by decide +kernel
theorem d88_20 : decode (mB 88) 20 = .ok (.newarray .int, 2) := by decide +kernel
theorem d88_22 : decode (mB 88) 22 = .ok (.putfield 18, 3) := by decide +kernel
theorem d88_25 : decode (mB 88) 25 = .ok (.aload_n 0, 1) := by decide +kernel
theorem d88_26 : decode (mB 88) 26 = .ok (.bipush 40, 2) := by decide +kernel
theorem d88_28 : decode (mB 88) 28 = .ok (.newarray .int, 2) := by decide +kernel
theorem d88_30 : decode (mB 88) 30 = .ok (.putfield 21, 3) := by decide +kernel
theorem d88_33 : decode (mB 88) 33 = .ok (.aload_n 0, 1) := by decide +kernel
theorem d88_34 : decode (mB 88) 34 = .ok (.bipush 40, 2) := by decide +kernel
theorem d88_36 : decode (mB 88) 36 = .ok (.newarray .int, 2) := by decide +kernel
theorem d88_38 : decode (mB 88) 38 = .ok (.putfield 24, 3) := by decide +kernel
theorem d88_41 : decode (mB 88) 41 = .ok (.aload_n 0, 1) := by decide +kernel
theorem d88_42 : decode (mB 88) 42 = .ok (.bipush 40, 2) := by decide +kernel
theorem d88_44 : decode (mB 88) 44 = .ok (.newarray .int, 2) := by decide +kernel
theorem d88_46 : decode (mB 88) 46 = .ok (.putfield 27, 3) := by decide +kernel
theorem d88_49 : decode (mB 88) 49 = .ok (.aload_n 0, 1) := by decide +kernel
theorem d88_50 : decode (mB 88) 50 = .ok (.iconst 2, 1) := by decide +kernel
theorem d88_51 : decode (mB 88) 51 = .ok (.anewarray 30, 3) := by decide +kernel
theorem d88_54 : decode (mB 88) 54 = .ok (.dup, 1) := by decide +kernel
theorem d88_55 : decode (mB 88) 55 = .ok (.iconst 0, 1) := by decide +kernel
theorem d88_56 : decode (mB 88) 56 = .ok (.new 30, 3) := by decide +kernel
theorem d88_59 : decode (mB 88) 59 = .ok (.dup, 1) := by decide +kernel
theorem d88_60 : decode (mB 88) 60 = .ok (.invokespecial 32, 3) := by decide +kernel
theorem d88_63 : decode (mB 88) 63 = .ok (.aastore, 1) := by decide +kernel
theorem d88_64 : decode (mB 88) 64 = .ok (.dup, 1) := by decide +kernel
theorem d88_65 : decode (mB 88) 65 = .ok (.iconst 1, 1) := by decide +kernel
theorem d88_66 : decode (mB 88) 66 = .ok (.new 30, 3) := by decide +kernel
theorem d88_69 : decode (mB 88) 69 = .ok (.dup, 1) := by decide +kernel
theorem d88_70 : decode (mB 88) 70 = .ok (.invokespecial 32, 3) := by decide +kernel
theorem d88_73 : decode (mB 88) 73 = .ok (.aastore, 1) := by decide +kernel
theorem d88_74 : decode (mB 88) 74 = .ok (.putfield 33, 3) := by decide +kernel
theorem d88_77 : decode (mB 88) 77 = .ok (.aload_n 0, 1) := by decide +kernel
theorem d88_78 : decode (mB 88) 78 = .ok (.iload_n 1, 1) := by decide +kernel
theorem d88_79 : decode (mB 88) 79 = .ok (.putfield 37, 3) := by decide +kernel
theorem d88_82 : decode (mB 88) 82 = .ok (.return_, 1) := by decide +kernel
theorem v88_0 (L : Nat) (xs : Nat → Int32) : zVal L xs 88 0 (.inl (i_al 0 1)) := zS_aload_n d88_0 rfl
theorem v88_1 (L : Nat) (xs : Nat → Int32) : zVal L xs 88 1 (.inl (i_oi 4)) := zS_oinit d88_1 w107 w93 w94 (by decide)
theorem v88_4 (L : Nat) (xs : Nat → Int32) : zVal L xs 88 4 (.inl (i_al 0 5)) := zS_aload_n d88_4 rfl
theorem v88_5 (L : Nat) (xs : Nat → Int32) : zVal L xs 88 5 (.inl (i_c (.int 4) 6)) := zS_iconst d88_5 (by decide)
theorem v88_6 (L : Nat) (xs : Nat → Int32) : zVal L xs 88 6 (.inl (i_na (11, 158) 0 (.inl (fun _ => 0)) 8)) := zS_newa (ty := .int) d88_6 w150 rfl (by decide) (fun _ => rfl) (fun _ => rfl) (fun _ _ => rfl) (fun _ _ h => h)
theorem v88_8 (L : Nat) (xs : Nat → Int32) : zVal L xs 88 8 (.inl (i_pf 9 1 okR 11)) := zS_putfF (ty := .array .int) d88_8 (zcl9) (by decide) zi9 w154 zy9 zn9 (by decide +kernel) (by decide +kernel) (by decide +kernel) (by decide +kernel) (okA_ok (.int))
theorem v88_11 (L : Nat) (xs : Nat → Int32) : zVal L xs 88 11 (.inl (i_al 0 12)) := zS_aload_n d88_11 rfl
theorem v88_12 (L : Nat) (xs : Nat → Int32) : zVal L xs 88 12 (.inl (i_c (.int 4) 13)) := zS_iconst d88_12 (by decide)
theorem v88_13 (L : Nat) (xs : Nat → Int32) : zVal L xs 88 13 (.inl (i_na (11, 158) 0 (.inl (fun _ => 0)) 15)) := zS_newa (ty := .int) d88_13 w150 rfl (by decide) (fun _ => rfl) (fun _ => rfl) (fun _ _ => rfl) (fun _ _ h => h)
theorem v88_15 (L : Nat) (xs : Nat → Int32) : zVal L xs 88 15 (.inl (i_pf 9 2 okR 18)) := zS_putfF (ty := .array .int) d88_15 (zcl9) (by decide) zi9 w157 zy9 zn9 (by decide +kernel) (by decide +kernel) (by decide +kernel) (by decide +kernel) (okA_ok (.int))
theorem v88_18 (L : Nat) (xs : Nat → Int32) : zVal L xs 88 18 (.inl (i_al 0 19)) := zS_aload_n d88_18 rfl
theorem v88_19 (L : Nat) (xs : Nat → Int32) : zVal L xs 88 19 (.inl (i_c (.int 4) 20)) := zS_iconst d88_19 (by decide)
theorem v88_20 (L : Nat) (xs : Nat → Int32) : zVal L xs 88 20 (.inl (i_na (11, 158) 0 (.inl (fun _ => 0)) 22)) := zS_newa (ty := .int) d88_20 w150 rfl (by decide) (fun _ => rfl) (fun _ => rfl) (fun _ _ => rfl) (fun _ _ h => h)
theorem v88_22 (L : Nat) (xs : Nat → Int32) : zVal L xs 88 22 (.inl (i_pf 9 3 okR 25)) := zS_putfF (ty := .array .int) d88_22 (zcl9) (by decide) zi9 w160 zy9 zn9 (by decide +kernel) (by decide +kernel) (by decide +kernel) (by decide +kernel) (okA_ok (.int))
theorem v88_25 (L : Nat) (xs : Nat → Int32) : zVal L xs 88 25 (.inl (i_al 0 26)) := zS_aload_n d88_25 rfl
theorem v88_26 (L : Nat) (xs : Nat → Int32) : zVal L xs 88 26 (.inl (i_c (.int 40) 28)) := zS_bipush d88_26 (by decide)
theorem v88_28 (L : Nat) (xs : Nat → Int32) : zVal L xs 88 28 (.inl (i_na (11, 158) 0 (.inl (fun _ => 0)) 30)) := zS_newa (ty := .int) d88_28 w150 rfl (by decide) (fun _ => rfl) (fun _ => rfl) (fun _ _ => rfl) (fun _ _ h => h)
theorem v88_30 (L : Nat) (xs : Nat → Int32) : zVal L xs 88 30 (.inl (i_pf 9 4 okR 33)) := zS_putfF (ty := .array .int) d88_30 (zcl9) (by decide) zi9 w163 zy9 zn9 (by decide +kernel) (by decide +kernel) (by decide +kernel) (by decide +kernel) (okA_ok (.int))
theorem v88_33 (L : Nat) (xs : Nat → Int32) : zVal L xs 88 33 (.inl (i_al 0 34)) := zS_aload_n d88_33 rfl
theorem v88_34 (L : Nat) (xs : Nat → Int32) : zVal L xs 88 34 (.inl (i_c (.int 40) 36)) := zS_bipush d88_34 (by decide)
theorem v88_36 (L : Nat) (xs : Nat → Int32) : zVal L xs 88 36 (.inl (i_na (11, 158) 0 (.inl (fun _ => 0)) 38)) := zS_newa (ty := .int) d88_36 w150 rfl (by decide) (fun _ => rfl) (fun _ => rfl) (fun _ _ => rfl) (fun _ _ h => h)
theorem v88_38 (L : Nat) (xs : Nat → Int32) : zVal L xs 88 38 (.inl (i_pf 9 5 okR 41)) := zS_putfF (ty := .array .int) d88_38 (zcl9) (by decide) zi9 w165 zy9 zn9 (by decide +kernel) (by decide +kernel) (by decide +kernel) (by decide +kernel) (okA_ok (.int))
theorem v88_41 (L : Nat) (xs : Nat → Int32) : zVal L xs 88 41 (.inl (i_al 0 42)) := zS_aload_n d88_41 rfl
theorem v88_42 (L : Nat) (xs : Nat → Int32) : zVal L xs 88 42 (.inl (i_c (.int 40) 44)) := zS_bipush d88_42 (by decide)
theorem v88_44 (L : Nat) (xs : Nat → Int32) : zVal L xs 88 44 (.inl (i_na (11, 158) 0 (.inl (fun _ => 0)) 46)) := zS_newa (ty := .int) d88_44 w150 rfl (by decide) (fun _ => rfl) (fun _ => rfl) (fun _ _ => rfl) (fun _ _ h => h)
theorem v88_46 (L : Nat) (xs : Nat → Int32) : zVal L xs 88 46 (.inl (i_pf 9 6 okR 49)) := zS_putfF (ty := .array .int) d88_46 (zcl9) (by decide) zi9 w167 zy9 zn9 (by decide +kernel) (by decide +kernel) (by decide +kernel) (by decide +kernel) (okA_ok (.int))
theorem v88_49 (L : Nat) (xs : Nat → Int32) : zVal L xs 88 49 (.inl (i_al 0 50)) := zS_aload_n d88_49 rfl
theorem v88_50 (L : Nat) (xs : Nat → Int32) : zVal L xs 88 50 (.inl (i_c (.int 2) 51)) := zS_iconst d88_50 (by decide)
theorem v88_51 (L : Nat) (xs : Nat → Int32) : zVal L xs 88 51 (.inl (i_na (11, 158) 5 (.inr (.inr (.inr (.inr (fun _ => none))))) 54)) := zS_newq d88_51 w108 (by decide) (fun _ => rfl)
theorem v88_54 (L : Nat) (xs : Nat → Int32) : zVal L xs 88 54 (.inl (i_dup 55)) := zS_dup d88_54
theorem v88_55 (L : Nat) (xs : Nat → Int32) : zVal L xs 88 55 (.inl (i_c (.int 0) 56)) := zS_iconst d88_55 (by decide)
theorem v88_56 (L : Nat) (xs : Nat → Int32) : zVal L xs 88 56 (.inl (i_nw (11, 158) 4 8 [.null, .int 0, .int 0, .int 0, .int 0, .int 0, .int 0, .int 0] 59)) := zS_new (ty := cY4) d88_56 zcl4 zi4 zy4 w108 w110 w76 (by decide +kernel) (fun _ _ => rfl)
theorem v88_59 (L : Nat) (xs : Nat → Int32) : zVal L xs 88 59 (.inl (i_dup 60)) := zS_dup d88_59
theorem v88_60 (L : Nat) (xs : Nat → Int32) : zVal L xs 88 60 (.inr (.inl (47, 1, 5))) := ⟨by decide +kernel, by decide +kernel, zc_initN (host := "EditionGrid") (T := cT0) (C := "") (N := 0) d88_60 rfl w113 (by decide +kernel) w112 w76 rfl ⟨by decide +kernel, by decide +kernel, by decide +kernel⟩ (by decide) (by decide)⟩
theorem v88_63 (L : Nat) (xs : Nat → Int32) : zVal L xs 88 63 (.inl (i_pq 5 4 64)) := zS_aast5 d88_63 zcl4 (fun _ => rfl)
theorem v88_64 (L : Nat) (xs : Nat → Int32) : zVal L xs 88 64 (.inl (i_dup 65)) := zS_dup d88_64
theorem v88_65 (L : Nat) (xs : Nat → Int32) : zVal L xs 88 65 (.inl (i_c (.int 1) 66)) := zS_iconst d88_65 (by decide)
theorem v88_66 (L : Nat) (xs : Nat → Int32) : zVal L xs 88 66 (.inl (i_nw (11, 158) 4 8 [.null, .int 0, .int 0, .int 0, .int 0, .int 0, .int 0, .int 0] 69)) := zS_new (ty := cY4) d88_66 zcl4 zi4 zy4 w108 w110 w76 (by decide +kernel) (fun _ _ => rfl)
theorem v88_69 (L : Nat) (xs : Nat → Int32) : zVal L xs 88 69 (.inl (i_dup 70)) := zS_dup d88_69
theorem v88_70 (L : Nat) (xs : Nat → Int32) : zVal L xs 88 70 (.inr (.inl (47, 1, 5))) := ⟨by decide +kernel, by decide +kernel, zc_initN (host := "EditionGrid") (T := cT0) (C := "") (N := 0) d88_70 rfl w113 (by decide +kernel) w112 w76 rfl ⟨by decide +kernel, by decide +kernel, by decide +kernel⟩ (by decide) (by decide)⟩
theorem v88_73 (L : Nat) (xs : Nat → Int32) : zVal L xs 88 73 (.inl (i_pq 5 4 74)) := zS_aast5 d88_73 zcl4 (fun _ => rfl)
theorem v88_74 (L : Nat) (xs : Nat → Int32) : zVal L xs 88 74 (.inl (i_pf 9 7 okR 77)) := zS_putfF (ty := .array (.object "EditionGrid$Part")) d88_74 (zcl9) (by decide) zi9 w169 zy9 zn9 (by decide +kernel) (by decide +kernel) (by decide +kernel) (by decide +kernel) (okA_ok (.object "EditionGrid$Part"))
theorem v88_77 (L : Nat) (xs : Nat → Int32) : zVal L xs 88 77 (.inl (i_al 0 78)) := zS_aload_n d88_77 rfl
theorem v88_78 (L : Nat) (xs : Nat → Int32) : zVal L xs 88 78 (.inl (i_il 1 79)) := zS_iload_n d88_78 rfl
theorem v88_79 (L : Nat) (xs : Nat → Int32) : zVal L xs 88 79 (.inl (i_pf 9 0 okI 82)) := zS_putfF (ty := .int) d88_79 (zcl9) (by decide) zi9 w152 zy9 zn9 (by decide +kernel) (by decide +kernel) (by decide +kernel) (by decide +kernel) okI_ok
theorem v88_82 (L : Nat) (xs : Nat → Int32) : zVal L xs 88 82 (.inr (.inr 0)) := zr_0 d88_82 rfl
theorem vt88 (L : Nat) (xs : Nat → Int32) : zAll (fun x => zVal L xs 88 x.1 x.2) (tb88) := ⟨v88_0 L xs, v88_1 L xs, v88_4 L xs, v88_5 L xs, v88_6 L xs, v88_8 L xs, v88_11 L xs, v88_12 L xs, v88_13 L xs, v88_15 L xs, v88_18 L xs, v88_19 L xs, v88_20 L xs, v88_22 L xs, v88_25 L xs, v88_26 L xs, v88_28 L xs, v88_30 L xs, v88_33 L xs, v88_34 L xs, v88_36 L xs, v88_38 L xs, v88_41 L xs, v88_42 L xs, v88_44 L xs, v88_46 L xs, v88_49 L xs, v88_50 L xs, v88_51 L xs, v88_54 L xs, v88_55 L xs, v88_56 L xs, v88_59 L xs, v88_60 L xs, v88_63 L xs, v88_64 L xs, v88_65 L xs, v88_66 L xs, v88_69 L xs, v88_70 L xs, v88_73 L xs, v88_74 L xs, v88_77 L xs, v88_78 L xs, v88_79 L xs, v88_82 L xs, trivial⟩
theorem d89_0 : decode (mB 89) 0 = .ok (.aload_n 0, 1) := by decide +kernel
theorem d89_1 : decode (mB 89) 1 = .ok (.iconst 0, 1) := by decide +kernel
theorem d89_2 : decode (mB 89) 2 = .ok (.putfield 41, 3) := by decide +kernel
theorem d89_5 : decode (mB 89) 5 = .ok (.aload_n 0, 1) := by decide +kernel
theorem d89_6 : decode (mB 89) 6 = .ok (.iconst 0, 1) := by decide +kernel
theorem d89_7 : decode (mB 89) 7 = .ok (.putfield 44, 3) := by decide +kernel
theorem d89_10 : decode (mB 89) 10 = .ok (.aload_n 0, 1) := by decide +kernel
theorem d89_11 : decode (mB 89) 11 = .ok (.iconst 0, 1) := by decide +kernel
theorem d89_12 : decode (mB 89) 12 = .ok (.putfield 47, 3) := by decide +kernel
theorem d89_15 : decode (mB 89) 15 = .ok (.return_, 1) := by decide +kernel
theorem v89_0 (L : Nat) (xs : Nat → Int32) : zVal L xs 89 0 (.inl (i_al 0 1)) := zS_aload_n d89_0 rfl
theorem v89_1 (L : Nat) (xs : Nat → Int32) : zVal L xs 89 1 (.inl (i_c (.int 0) 2)) := zS_iconst d89_1 (by decide)
theorem v89_2 (L : Nat) (xs : Nat → Int32) : zVal L xs 89 2 (.inl (i_pf 9 11 okI 5)) := zS_putf (ty := .int) d89_2 (zcl9) (by decide) zi9 w179 zy9 zn9 (by decide +kernel) (by decide +kernel) okI_ok
theorem v89_5 (L : Nat) (xs : Nat → Int32) : zVal L xs 89 5 (.inl (i_al 0 6)) := zS_aload_n d89_5 rfl
theorem v89_6 (L : Nat) (xs : Nat → Int32) : zVal L xs 89 6 (.inl (i_c (.int 0) 7)) := zS_iconst d89_6 (by decide)
theorem v89_7 (L : Nat) (xs : Nat → Int32) : zVal L xs 89 7 (.inl (i_pf 9 12 okI 10)) := zS_putf (ty := .int) d89_7 (zcl9) (by decide) zi9 w184 zy9 zn9 (by decide +kernel) (by decide +kernel) okI_ok
theorem v89_10 (L : Nat) (xs : Nat → Int32) : zVal L xs 89 10 (.inl (i_al 0 11)) := zS_aload_n d89_10 rfl
theorem v89_11 (L : Nat) (xs : Nat → Int32) : zVal L xs 89 11 (.inl (i_c (.int 0) 12)) := zS_iconst d89_11 (by decide)
theorem v89_12 (L : Nat) (xs : Nat → Int32) : zVal L xs 89 12 (.inl (i_pf 9 13 okI 15)) := zS_putf (ty := .int) d89_12 (zcl9) (by decide) zi9 w187 zy9 zn9 (by decide +kernel) (by decide +kernel) okI_ok
theorem v89_15 (L : Nat) (xs : Nat → Int32) : zVal L xs 89 15 (.inr (.inr 0)) := zr_0 d89_15 rfl
theorem vt89 (L : Nat) (xs : Nat → Int32) : zAll (fun x => zVal L xs 89 x.1 x.2) (tb89) := ⟨v89_0 L xs, v89_1 L xs, v89_2 L xs, v89_5 L xs, v89_6 L xs, v89_7 L xs, v89_10 L xs, v89_11 L xs, v89_12 L xs, v89_15 L xs, trivial⟩
theorem d90_0 : decode (mB 90) 0 = .ok (.aload_n 0, 1) := by decide +kernel
theorem d90_1 : decode (mB 90) 1 = .ok (.iconst 0, 1) := by decide +kernel
theorem d90_2 : decode (mB 90) 2 = .ok (.putfield 50, 3) := by decide +kernel
theorem d90_5 : decode (mB 90) 5 = .ok (.aload_n 0, 1) := by decide +kernel
theorem d90_6 : decode (mB 90) 6 = .ok (.iconst 0, 1) := by decide +kernel
theorem d90_7 : decode (mB 90) 7 = .ok (.putfield 53, 3) := by decide +kernel
theorem d90_10 : decode (mB 90) 10 = .ok (.aload_n 0, 1) := by decide +kernel
theorem d90_11 : decode (mB 90) 11 = .ok (.iconst 0, 1) := by decide +kernel
theorem d90_12 : decode (mB 90) 12 = .ok (.putfield 56, 3) := by decide +kernel
theorem d90_15 : decode (mB 90) 15 = .ok (.aload_n 0, 1) := by decide +kernel
theorem d90_16 : decode (mB 90) 16 = .ok (.lconst 0, 1) := by decide +kernel
theorem d90_17 : decode (mB 90) 17 = .ok (.putfield 59, 3) := by decide +kernel
theorem d90_20 : decode (mB 90) 20 = .ok (.return_, 1) := by decide +kernel
theorem v90_0 (L : Nat) (xs : Nat → Int32) : zVal L xs 90 0 (.inl (i_al 0 1)) := zS_aload_n d90_0 rfl
theorem v90_1 (L : Nat) (xs : Nat → Int32) : zVal L xs 90 1 (.inl (i_c (.int 0) 2)) := zS_iconst d90_1 (by decide)
theorem v90_2 (L : Nat) (xs : Nat → Int32) : zVal L xs 90 2 (.inl (i_pf 9 14 okI 5)) := zS_putf (ty := .int) d90_2 (zcl9) (by decide) zi9 w193 zy9 zn9 (by decide +kernel) (by decide +kernel) okI_ok
theorem v90_5 (L : Nat) (xs : Nat → Int32) : zVal L xs 90 5 (.inl (i_al 0 6)) := zS_aload_n d90_5 rfl
theorem v90_6 (L : Nat) (xs : Nat → Int32) : zVal L xs 90 6 (.inl (i_c (.int 0) 7)) := zS_iconst d90_6 (by decide)
theorem v90_7 (L : Nat) (xs : Nat → Int32) : zVal L xs 90 7 (.inl (i_pf 9 15 okI 10)) := zS_putf (ty := .int) d90_7 (zcl9) (by decide) zi9 w196 zy9 zn9 (by decide +kernel) (by decide +kernel) okI_ok
theorem v90_10 (L : Nat) (xs : Nat → Int32) : zVal L xs 90 10 (.inl (i_al 0 11)) := zS_aload_n d90_10 rfl
theorem v90_11 (L : Nat) (xs : Nat → Int32) : zVal L xs 90 11 (.inl (i_c (.int 0) 12)) := zS_iconst d90_11 (by decide)
theorem v90_12 (L : Nat) (xs : Nat → Int32) : zVal L xs 90 12 (.inl (i_pf 9 16 okI 15)) := zS_putf (ty := .int) d90_12 (zcl9) (by decide) zi9 w200 zy9 zn9 (by decide +kernel) (by decide +kernel) okI_ok
theorem v90_15 (L : Nat) (xs : Nat → Int32) : zVal L xs 90 15 (.inl (i_al 0 16)) := zS_aload_n d90_15 rfl
theorem v90_16 (L : Nat) (xs : Nat → Int32) : zVal L xs 90 16 (.inl (i_c (.long 0) 17)) := zS_lconst d90_16 (by decide)
theorem v90_17 (L : Nat) (xs : Nat → Int32) : zVal L xs 90 17 (.inl (i_pf 9 17 okJ 20)) := zS_putf (ty := .long) d90_17 (zcl9) (by decide) zi9 w202 zy9 zn9 (by decide +kernel) (by decide +kernel) okJ_ok
theorem v90_20 (L : Nat) (xs : Nat → Int32) : zVal L xs 90 20 (.inr (.inr 0)) := zr_0 d90_20 rfl
theorem vt90 (L : Nat) (xs : Nat → Int32) : zAll (fun x => zVal L xs 90 x.1 x.2) (tb90) := ⟨v90_0 L xs, v90_1 L xs, v90_2 L xs, v90_5 L xs, v90_6 L xs, v90_7 L xs, v90_10 L xs, v90_11 L xs, v90_12 L xs, v90_15 L xs, v90_16 L xs, v90_17 L xs, v90_20 L xs, trivial⟩
theorem d91_0 : decode (mB 91) 0 = .ok (.aload_n 0, 1) := by decide +kernel
theorem d91_1 : decode (mB 91) 1 = .ok (.getfield 53, 3) := by decide +kernel
theorem d91_4 : decode (mB 91) 4 = .ok (.bipush 40, 2) := by decide +kernel
theorem d91_6 : decode (mB 91) 6 = .ok (.if_icmp .ge 33, 3) := by decide +kernel
theorem d91_9 : decode (mB 91) 9 = .ok (.aload_n 0, 1) := by decide +kernel
theorem d91_10 : decode (mB 91) 10 = .ok (.getfield 21, 3) := by decide +kernel
theorem d91_13 : decode (mB 91) 13 = .ok (.aload_n 0, 1) := by decide +kernel
theorem d91_14 : decode (mB 91) 14 = .ok (.getfield 53, 3) := by decide +kernel
theorem d91_17 : decode (mB 91) 17 = .ok (.iload_n 1, 1) := by decide +kernel
theorem d91_18 : decode (mB 91) 18 = .ok (.iastore, 1) := by decide +kernel
theorem d91_19 : decode (mB 91) 19 = .ok (.aload_n 0, 1) := by decide +kernel
theorem d91_20 : decode (mB 91) 20 = .ok (.getfield 24, 3) := by decide +kernel
theorem d91_23 : decode (mB 91) 23 = .ok (.aload_n 0, 1) := by decide +kernel
theorem d91_24 : decode (mB 91) 24 = .ok (.getfield 53, 3) := by decide +kernel
theorem d91_27 : decode (mB 91) 27 = .ok (.iload_n 2, 1) := by decide +kernel
theorem d91_28 : decode (mB 91) 28 = .ok (.iastore, 1) := by decide +kernel
theorem d91_29 : decode (mB 91) 29 = .ok (.aload_n 0, 1) := by decide +kernel
theorem d91_30 : decode (mB 91) 30 = .ok (.getfield 27, 3) := by decide +kernel
theorem d91_33 : decode (mB 91) 33 = .ok (.aload_n 0, 1) := by decide +kernel
theorem d91_34 : decode (mB 91) 34 = .ok (.getfield 53, 3) := by decide +kernel
theorem d91_37 : decode (mB 91) 37 = .ok (.iload_n 3, 1) := by decide +kernel
theorem d91_38 : decode (mB 91) 38 = .ok (.iastore, 1) := by decide +kernel
theorem d91_39 : decode (mB 91) 39 = .ok (.aload_n 0, 1) := by decide +kernel
theorem d91_40 : decode (mB 91) 40 = .ok (.dup, 1) := by decide +kernel
theorem d91_41 : decode (mB 91) 41 = .ok (.getfield 53, 3) := by decide +kernel
theorem d91_44 : decode (mB 91) 44 = .ok (.iconst 1, 1) := by decide +kernel
theorem d91_45 : decode (mB 91) 45 = .ok (.iadd, 1) := by decide +kernel
theorem d91_46 : decode (mB 91) 46 = .ok (.putfield 53, 3) := by decide +kernel
theorem d91_49 : decode (mB 91) 49 = .ok (.return_, 1) := by decide +kernel
theorem v91_0 (L : Nat) (xs : Nat → Int32) : zVal L xs 91 0 (.inl (i_al 0 1)) := zS_aload_n d91_0 rfl
theorem v91_1 (L : Nat) (xs : Nat → Int32) : zVal L xs 91 1 (.inl (i_gf 9 15 4)) := zS_getf d91_1 (zcl9) (by decide) zi9 w196
theorem v91_4 (L : Nat) (xs : Nat → Int32) : zVal L xs 91 4 (.inl (i_c (.int 40) 6)) := zS_bipush d91_4 (by decide)
theorem v91_6 (L : Nat) (xs : Nat → Int32) : zVal L xs 91 6 (.inl (i_f2 (fun x y => decide (y ≤ x)) 39 9)) := zS_icmp_ge d91_6 (by decide)
theorem v91_9 (L : Nat) (xs : Nat → Int32) : zVal L xs 91 9 (.inl (i_al 0 10)) := zS_aload_n d91_9 rfl
theorem v91_10 (L : Nat) (xs : Nat → Int32) : zVal L xs 91 10 (.inl (i_gf 9 4 13)) := zS_getf d91_10 (zcl9) (by decide) zi9 w163
theorem v91_13 (L : Nat) (xs : Nat → Int32) : zVal L xs 91 13 (.inl (i_al 0 14)) := zS_aload_n d91_13 rfl
theorem v91_14 (L : Nat) (xs : Nat → Int32) : zVal L xs 91 14 (.inl (i_gf 9 15 17)) := zS_getf d91_14 (zcl9) (by decide) zi9 w196
theorem v91_17 (L : Nat) (xs : Nat → Int32) : zVal L xs 91 17 (.inl (i_il 1 18)) := zS_iload_n d91_17 rfl
theorem v91_18 (L : Nat) (xs : Nat → Int32) : zVal L xs 91 18 (.inl (i_pa 0 (fun x => x) 19)) := zS_iast d91_18
theorem v91_19 (L : Nat) (xs : Nat → Int32) : zVal L xs 91 19 (.inl (i_al 0 20)) := zS_aload_n d91_19 rfl
theorem v91_20 (L : Nat) (xs : Nat → Int32) : zVal L xs 91 20 (.inl (i_gf 9 5 23)) := zS_getf d91_20 (zcl9) (by decide) zi9 w165
theorem v91_23 (L : Nat) (xs : Nat → Int32) : zVal L xs 91 23 (.inl (i_al 0 24)) := zS_aload_n d91_23 rfl
theorem v91_24 (L : Nat) (xs : Nat → Int32) : zVal L xs 91 24 (.inl (i_gf 9 15 27)) := zS_getf d91_24 (zcl9) (by decide) zi9 w196
theorem v91_27 (L : Nat) (xs : Nat → Int32) : zVal L xs 91 27 (.inl (i_il 2 28)) := zS_iload_n d91_27 rfl
theorem v91_28 (L : Nat) (xs : Nat → Int32) : zVal L xs 91 28 (.inl (i_pa 0 (fun x => x) 29)) := zS_iast d91_28
theorem v91_29 (L : Nat) (xs : Nat → Int32) : zVal L xs 91 29 (.inl (i_al 0 30)) := zS_aload_n d91_29 rfl
theorem v91_30 (L : Nat) (xs : Nat → Int32) : zVal L xs 91 30 (.inl (i_gf 9 6 33)) := zS_getf d91_30 (zcl9) (by decide) zi9 w167
theorem v91_33 (L : Nat) (xs : Nat → Int32) : zVal L xs 91 33 (.inl (i_al 0 34)) := zS_aload_n d91_33 rfl
theorem v91_34 (L : Nat) (xs : Nat → Int32) : zVal L xs 91 34 (.inl (i_gf 9 15 37)) := zS_getf d91_34 (zcl9) (by decide) zi9 w196
theorem v91_37 (L : Nat) (xs : Nat → Int32) : zVal L xs 91 37 (.inl (i_il 3 38)) := zS_iload_n d91_37 rfl
theorem v91_38 (L : Nat) (xs : Nat → Int32) : zVal L xs 91 38 (.inl (i_pa 0 (fun x => x) 39)) := zS_iast d91_38
theorem v91_39 (L : Nat) (xs : Nat → Int32) : zVal L xs 91 39 (.inl (i_k [false, true, true, true] (i_al 0 40))) := zS_k (zS_aload_n d91_39 rfl)
theorem v91_40 (L : Nat) (xs : Nat → Int32) : zVal L xs 91 40 (.inl (i_dup 41)) := zS_dup d91_40
theorem v91_41 (L : Nat) (xs : Nat → Int32) : zVal L xs 91 41 (.inl (i_gf 9 15 44)) := zS_getf d91_41 (zcl9) (by decide) zi9 w196
theorem v91_44 (L : Nat) (xs : Nat → Int32) : zVal L xs 91 44 (.inl (i_c (.int 1) 45)) := zS_iconst d91_44 (by decide)
theorem v91_45 (L : Nat) (xs : Nat → Int32) : zVal L xs 91 45 (.inl (i_bi (fun x y => x + y) 46)) := zS_iadd d91_45
theorem v91_46 (L : Nat) (xs : Nat → Int32) : zVal L xs 91 46 (.inl (i_pf 9 15 okI 49)) := zS_putf (ty := .int) d91_46 (zcl9) (by decide) zi9 w196 zy9 zn9 (by decide +kernel) (by decide +kernel) okI_ok
theorem v91_49 (L : Nat) (xs : Nat → Int32) : zVal L xs 91 49 (.inr (.inr 0)) := zr_0 d91_49 rfl
theorem vt91 (L : Nat) (xs : Nat → Int32) : zAll (fun x => zVal L xs 91 x.1 x.2) (tb91) := ⟨v91_0 L xs, v91_1 L xs, v91_4 L xs, v91_6 L xs, v91_9 L xs, v91_10 L xs, v91_13 L xs, v91_14 L xs, v91_17 L xs, v91_18 L xs, v91_19 L xs, v91_20 L xs, v91_23 L xs, v91_24 L xs, v91_27 L xs, v91_28 L xs, v91_29 L xs, v91_30 L xs, v91_33 L xs, v91_34 L xs, v91_37 L xs, v91_38 L xs, v91_39 L xs, v91_40 L xs, v91_41 L xs, v91_44 L xs, v91_45 L xs, v91_46 L xs, v91_49 L xs, trivial⟩
theorem d92_0 : decode (mB 92) 0 = .ok (.aload_n 0, 1) := by decide +kernel
theorem d92_1 : decode (mB 92) 1 = .ok (.getfield 53, 3) := by decide +kernel
theorem d92_4 : decode (mB 92) 4 = .ok (.iconst 1, 1) := by decide +kernel
theorem d92_5 : decode (mB 92) 5 = .ok (.isub, 1) := by decide +kernel
theorem d92_6 : decode (mB 92) 6 = .ok (.istore_n 2, 1) := by decide +kernel
theorem d92_7 : decode (mB 92) 7 = .ok (.iload_n 2, 1) := by decide +kernel
theorem d92_8 : decode (mB 92) 8 = .ok (.iload_n 1, 1) := by decide +kernel
theorem d92_9 : decode (mB 92) 9 = .ok (.if_icmp .le 27, 3) := by decide +kernel
theorem d92_12 : decode (mB 92) 12 = .ok (.iload_n 2, 1) := by decide +kernel
theorem d92_13 : decode (mB 92) 13 = .ok (.bipush 40, 2) := by decide +kernel
theorem d92_15 : decode (mB 92) 15 = .ok (.if_icmp .ge 21, 3) := by decide +kernel
theorem d92_18 : decode (mB 92) 18 = .ok (.aload_n 0, 1) := by decide +kernel
theorem d92_19 : decode (mB 92) 19 = .ok (.dup, 1) := by decide +kernel
theorem d92_20 : decode (mB 92) 20 = .ok (.getfield 59, 3) := by decide +kernel
theorem d92_23 : decode (mB 92) 23 = .ok (.lconst 1, 1) := by decide +kernel
theorem d92_24 : decode (mB 92) 24 = .ok (.iload_n 1, 1) := by decide +kernel
theorem d92_25 : decode (mB 92) 25 = .ok (.iconst 1, 1) := by decide +kernel
theorem d92_26 : decode (mB 92) 26 = .ok (.iadd, 1) := by decide +kernel
theorem d92_27 : decode (mB 92) 27 = .ok (.lshl, 1) := by decide +kernel
theorem d92_28 : decode (mB 92) 28 = .ok (.lconst 1, 1) := by decide +kernel
theorem d92_29 : decode (mB 92) 29 = .ok (.iload_n 2, 1) := by decide +kernel
theorem d92_30 : decode (mB 92) 30 = .ok (.lshl, 1) := by decide +kernel
theorem d92_31 : decode (mB 92) 31 = .ok (.lor, 1) := by decide +kernel
theorem d92_32 : decode (mB 92) 32 = .ok (.lor, 1) := by decide +kernel
theorem d92_33 : decode (mB 92) 33 = .ok (.putfield 59, 3) := by decide +kernel
theorem d92_36 : decode (mB 92) 36 = .ok (.return_, 1) := by decide +kernel
theorem v92_0 (L : Nat) (xs : Nat → Int32) : zVal L xs 92 0 (.inl (i_al 0 1)) := zS_aload_n d92_0 rfl
theorem v92_1 (L : Nat) (xs : Nat → Int32) : zVal L xs 92 1 (.inl (i_gf 9 15 4)) := zS_getf d92_1 (zcl9) (by decide) zi9 w196
theorem v92_4 (L : Nat) (xs : Nat → Int32) : zVal L xs 92 4 (.inl (i_c (.int 1) 5)) := zS_iconst d92_4 (by decide)
theorem v92_5 (L : Nat) (xs : Nat → Int32) : zVal L xs 92 5 (.inl (i_bi (fun x y => x - y) 6)) := zS_isub d92_5
theorem v92_6 (L : Nat) (xs : Nat → Int32) : zVal L xs 92 6 (.inl (i_is 2 7)) := zS_istore_n d92_6 rfl
theorem v92_7 (L : Nat) (xs : Nat → Int32) : zVal L xs 92 7 (.inl (i_il 2 8)) := zS_iload_n d92_7 rfl
theorem v92_8 (L : Nat) (xs : Nat → Int32) : zVal L xs 92 8 (.inl (i_il 1 9)) := zS_iload_n d92_8 rfl
theorem v92_9 (L : Nat) (xs : Nat → Int32) : zVal L xs 92 9 (.inl (i_f2 (fun x y => decide (x ≤ y)) 36 12)) := zS_icmp_le d92_9 (by decide)
theorem v92_12 (L : Nat) (xs : Nat → Int32) : zVal L xs 92 12 (.inl (i_il 2 13)) := zS_iload_n d92_12 rfl
theorem v92_13 (L : Nat) (xs : Nat → Int32) : zVal L xs 92 13 (.inl (i_c (.int 40) 15)) := zS_bipush d92_13 (by decide)
theorem v92_15 (L : Nat) (xs : Nat → Int32) : zVal L xs 92 15 (.inl (i_f2 (fun x y => decide (y ≤ x)) 36 18)) := zS_icmp_ge d92_15 (by decide)
theorem v92_18 (L : Nat) (xs : Nat → Int32) : zVal L xs 92 18 (.inl (i_al 0 19)) := zS_aload_n d92_18 rfl
theorem v92_19 (L : Nat) (xs : Nat → Int32) : zVal L xs 92 19 (.inl (i_dup 20)) := zS_dup d92_19
theorem v92_20 (L : Nat) (xs : Nat → Int32) : zVal L xs 92 20 (.inl (i_gf 9 17 23)) := zS_getf d92_20 (zcl9) (by decide) zi9 w202
theorem v92_23 (L : Nat) (xs : Nat → Int32) : zVal L xs 92 23 (.inl (i_c (.long 1) 24)) := zS_lconst d92_23 (by decide)
theorem v92_24 (L : Nat) (xs : Nat → Int32) : zVal L xs 92 24 (.inl (i_il 1 25)) := zS_iload_n d92_24 rfl
theorem v92_25 (L : Nat) (xs : Nat → Int32) : zVal L xs 92 25 (.inl (i_c (.int 1) 26)) := zS_iconst d92_25 (by decide)
theorem v92_26 (L : Nat) (xs : Nat → Int32) : zVal L xs 92 26 (.inl (i_bi (fun x y => x + y) 27)) := zS_iadd d92_26
theorem v92_27 (L : Nat) (xs : Nat → Int32) : zVal L xs 92 27 (.inl (i_sl (fun x y => x <<< (y.toInt64 &&& 63)) 28)) := zS_lshl d92_27
theorem v92_28 (L : Nat) (xs : Nat → Int32) : zVal L xs 92 28 (.inl (i_c (.long 1) 29)) := zS_lconst d92_28 (by decide)
theorem v92_29 (L : Nat) (xs : Nat → Int32) : zVal L xs 92 29 (.inl (i_il 2 30)) := zS_iload_n d92_29 rfl
theorem v92_30 (L : Nat) (xs : Nat → Int32) : zVal L xs 92 30 (.inl (i_sl (fun x y => x <<< (y.toInt64 &&& 63)) 31)) := zS_lshl d92_30
theorem v92_31 (L : Nat) (xs : Nat → Int32) : zVal L xs 92 31 (.inl (i_bl (fun x y => x ||| y) 32)) := zS_lor d92_31
theorem v92_32 (L : Nat) (xs : Nat → Int32) : zVal L xs 92 32 (.inl (i_bl (fun x y => x ||| y) 33)) := zS_lor d92_32
theorem v92_33 (L : Nat) (xs : Nat → Int32) : zVal L xs 92 33 (.inl (i_pf 9 17 okJ 36)) := zS_putf (ty := .long) d92_33 (zcl9) (by decide) zi9 w202 zy9 zn9 (by decide +kernel) (by decide +kernel) okJ_ok
theorem v92_36 (L : Nat) (xs : Nat → Int32) : zVal L xs 92 36 (.inr (.inr 0)) := zr_0 d92_36 rfl
theorem vt92 (L : Nat) (xs : Nat → Int32) : zAll (fun x => zVal L xs 92 x.1 x.2) (tb92) := ⟨v92_0 L xs, v92_1 L xs, v92_4 L xs, v92_5 L xs, v92_6 L xs, v92_7 L xs, v92_8 L xs, v92_9 L xs, v92_12 L xs, v92_13 L xs, v92_15 L xs, v92_18 L xs, v92_19 L xs, v92_20 L xs, v92_23 L xs, v92_24 L xs, v92_25 L xs, v92_26 L xs, v92_27 L xs, v92_28 L xs, v92_29 L xs, v92_30 L xs, v92_31 L xs, v92_32 L xs, v92_33 L xs, v92_36 L xs, trivial⟩
theorem d93_0 : decode (mB 93) 0 = .ok (.lconst 1, 1) := by decide +kernel
theorem d93_1 : decode (mB 93) 1 = .ok (.aload_n 0, 1) := by decide +kernel
theorem d93_2 : decode (mB 93) 2 = .ok (.getfield 53, 3) := by decide +kernel
theorem d93_5 : decode (mB 93) 5 = .ok (.iconst 1, 1) := by decide +kernel
theorem d93_6 : decode (mB 93) 6 = .ok (.iadd, 1) := by decide +kernel
theorem d93_7 : decode (mB 93) 7 = .ok (.lshl, 1) := by decide +kernel
theorem d93_8 : decode (mB 93) 8 = .ok (.lconst 1, 1) := by decide +kernel
theorem d93_9 : decode (mB 93) 9 = .ok (.lsub, 1) := by decide +kernel
theorem d93_10 : decode (mB 93) 10 = .ok (.aload_n 0, 1) := by decide +kernel
theorem d93_11 : decode (mB 93) 11 = .ok (.getfield 59, 3) := by decide +kernel
theorem d93_14 : decode (mB 93) 14 = .ok (.ldc2_w 63, 3) := by decide +kernel
theorem d93_17 : decode (mB 93) 17 = .ok (.lxor, 1) := by decide +kernel
theorem d93_18 : decode (mB 93) 18 = .ok (.land, 1) := by decide +kernel
theorem d93_19 : decode (mB 93) 19 = .ok (.lreturn, 1) := by decide +kernel
theorem v93_0 (L : Nat) (xs : Nat → Int32) : zVal L xs 93 0 (.inl (i_c (.long 1) 1)) := zS_lconst d93_0 (by decide)
theorem v93_1 (L : Nat) (xs : Nat → Int32) : zVal L xs 93 1 (.inl (i_al 0 2)) := zS_aload_n d93_1 rfl
theorem v93_2 (L : Nat) (xs : Nat → Int32) : zVal L xs 93 2 (.inl (i_gf 9 15 5)) := zS_getf d93_2 (zcl9) (by decide) zi9 w196
theorem v93_5 (L : Nat) (xs : Nat → Int32) : zVal L xs 93 5 (.inl (i_c (.int 1) 6)) := zS_iconst d93_5 (by decide)
theorem v93_6 (L : Nat) (xs : Nat → Int32) : zVal L xs 93 6 (.inl (i_bi (fun x y => x + y) 7)) := zS_iadd d93_6
theorem v93_7 (L : Nat) (xs : Nat → Int32) : zVal L xs 93 7 (.inl (i_sl (fun x y => x <<< (y.toInt64 &&& 63)) 8)) := zS_lshl d93_7
theorem v93_8 (L : Nat) (xs : Nat → Int32) : zVal L xs 93 8 (.inl (i_c (.long 1) 9)) := zS_lconst d93_8 (by decide)
theorem v93_9 (L : Nat) (xs : Nat → Int32) : zVal L xs 93 9 (.inl (i_bl (fun x y => x - y) 10)) := zS_lsub d93_9
theorem v93_10 (L : Nat) (xs : Nat → Int32) : zVal L xs 93 10 (.inl (i_al 0 11)) := zS_aload_n d93_10 rfl
theorem v93_11 (L : Nat) (xs : Nat → Int32) : zVal L xs 93 11 (.inl (i_gf 9 17 14)) := zS_getf d93_11 (zcl9) (by decide) zi9 w202
theorem v93_14 (L : Nat) (xs : Nat → Int32) : zVal L xs 93 14 (.inl (i_c (.long (-1)) 17)) := zS_ldc2 d93_14 w627
theorem v93_17 (L : Nat) (xs : Nat → Int32) : zVal L xs 93 17 (.inl (i_bl (fun x y => x ^^^ y) 18)) := zS_lxor d93_17
theorem v93_18 (L : Nat) (xs : Nat → Int32) : zVal L xs 93 18 (.inl (i_bl (fun x y => x &&& y) 19)) := zS_land d93_18
theorem v93_19 (L : Nat) (xs : Nat → Int32) : zVal L xs 93 19 (.inr (.inr 3)) := zr_3 d93_19 rfl
theorem vt93 (L : Nat) (xs : Nat → Int32) : zAll (fun x => zVal L xs 93 x.1 x.2) (tb93) := ⟨v93_0 L xs, v93_1 L xs, v93_2 L xs, v93_5 L xs, v93_6 L xs, v93_7 L xs, v93_8 L xs, v93_9 L xs, v93_10 L xs, v93_11 L xs, v93_14 L xs, v93_17 L xs, v93_18 L xs, v93_19 L xs, trivial⟩
theorem d94_0 : decode (mB 94) 0 = .ok (.aload_n 0, 1) := by decide +kernel
theorem d94_1 : decode (mB 94) 1 = .ok (.invokespecial 1, 3) := by decide +kernel
theorem d94_4 : decode (mB 94) 4 = .ok (.aload_n 0, 1) := by decide +kernel
theorem d94_5 : decode (mB 94) 5 = .ok (.bipush 26, 2) := by decide +kernel
theorem d94_7 : decode (mB 94) 7 = .ok (.newarray .int, 2) := by decide +kernel
theorem d94_9 : decode (mB 94) 9 = .ok (.putfield 7, 3) := by decide +kernel
theorem d94_12 : decode (mB 94) 12 = .ok (.aload_n 0, 1) := by decide +kernel
theorem d94_13 : decode (mB 94) 13 = .ok (.bipush 26, 2) := by decide +kernel
theorem d94_15 : decode (mB 94) 15 = .ok (.newarray .int, 2) := by decide +kernel
theorem d94_17 : decode (mB 94) 17 = .ok (.putfield 13, 3) := by decide +kernel
theorem d94_20 : decode (mB 94) 20 = .ok (.aload_n 0, 1) := by decide +kernel
theorem d94_21 : decode (mB 94) 21 = .ok (.bipush 20, 2) := by decide +kernel
theorem d94_23 : decode (mB 94) 23 = .ok (.newarray .int, 2) := by decide +kernel
theorem d94_25 : decode (mB 94) 25 = .ok (.putfield 16, 3) := by decide +kernel
theorem d94_28 : decode (mB 94) 28 = .ok (.aload_n 0, 1) := by decide +kernel
theorem d94_29 : decode (mB 94) 29 = .ok (.bipush 120, 2) := by decide +kernel
theorem d94_31 : decode (mB 94) 31 = .ok (.newarray .int, 2) := by decide +kernel
theorem d94_33 : decode (mB 94) 33 = .ok (.putfield 19, 3) := by decide +kernel
theorem d94_36 : decode (mB 94) 36 = .ok (.aload_n 0, 1) := by decide +kernel
theorem d94_37 : decode (mB 94) 37 = .ok (.sipush 140, 3) := by decide +kernel
theorem d94_40 : decode (mB 94) 40 = .ok (.newarray .int, 2) := by decide +kernel
theorem d94_42 : decode (mB 94) 42 = .ok (.putfield 22, 3) := by decide +kernel
theorem d94_45 : decode (mB 94) 45 = .ok (.aload_n 0, 1) := by decide +kernel
theorem d94_46 : decode (mB 94) 46 = .ok (.bipush 14, 2) := by decide +kernel
theorem d94_48 : decode (mB 94) 48 = .ok (.newarray .int, 2) := by decide +kernel
theorem d94_50 : decode (mB 94) 50 = .ok (.putfield 25, 3) := by decide +kernel
theorem d94_53 : decode (mB 94) 53 = .ok (.aload_n 0, 1) := by decide +kernel
theorem d94_54 : decode (mB 94) 54 = .ok (.bipush 15, 2) := by decide +kernel
theorem d94_56 : decode (mB 94) 56 = .ok (.newarray .int, 2) := by decide +kernel
theorem d94_58 : decode (mB 94) 58 = .ok (.putfield 28, 3) := by decide +kernel
theorem d94_61 : decode (mB 94) 61 = .ok (.aload_n 0, 1) := by decide +kernel
theorem d94_62 : decode (mB 94) 62 = .ok (.sipush 480, 3) := by decide +kernel
theorem d94_65 : decode (mB 94) 65 = .ok (.newarray .int, 2) := by decide +kernel
theorem d94_67 : decode (mB 94) 67 = .ok (.putfield 31, 3) := by decide +kernel
theorem d94_70 : decode (mB 94) 70 = .ok (.aload_n 0, 1) := by decide +kernel
theorem d94_71 : decode (mB 94) 71 = .ok (.iconst 4, 1) := by decide +kernel
theorem d94_72 : decode (mB 94) 72 = .ok (.newarray .int, 2) := by decide +kernel
theorem d94_74 : decode (mB 94) 74 = .ok (.putfield 34, 3) := by decide +kernel
theorem d94_77 : decode (mB 94) 77 = .ok (.aload_n 0, 1) := by decide +kernel
theorem d94_78 : decode (mB 94) 78 = .ok (.iconst 4, 1) := by decide +kernel
theorem d94_79 : decode (mB 94) 79 = .ok (.newarray .int, 2) := by decide +kernel
theorem d94_81 : decode (mB 94) 81 = .ok (.putfield 37, 3) := by decide +kernel
theorem d94_84 : decode (mB 94) 84 = .ok (.aload_n 0, 1) := by decide +kernel
theorem d94_85 : decode (mB 94) 85 = .ok (.iconst 4, 1) := by decide +kernel
theorem d94_86 : decode (mB 94) 86 = .ok (.newarray .int, 2) := by decide +kernel
theorem d94_88 : decode (mB 94) 88 = .ok (.putfield 40, 3) := by decide +kernel
theorem d94_91 : decode (mB 94) 91 = .ok (.aload_n 0, 1) := by decide +kernel
theorem d94_92 : decode (mB 94) 92 = .ok (.iconst 4, 1) := by decide +kernel
theorem d94_93 : decode (mB 94) 93 = .ok (.newarray .int, 2) := by decide +kernel
theorem d94_95 : decode (mB 94) 95 = .ok (.putfield 43, 3) := by decide +kernel
theorem d94_98 : decode (mB 94) 98 = .ok (.aload_n 0, 1) := by decide +kernel
theorem d94_99 : decode (mB 94) 99 = .ok (.sipush 3840, 3) := by decide +kernel
theorem d94_102 : decode (mB 94) 102 = .ok (.newarray .int, 2) := by decide +kernel
theorem d94_104 : decode (mB 94) 104 = .ok (.putfield 46, 3) := by decide +kernel
theorem d94_107 : decode (mB 94) 107 = .ok (.aload_n 0, 1) := by decide +kernel
theorem d94_108 : decode (mB 94) 108 = .ok (.sipush 320, 3) := by decide +kernel
theorem d94_111 : decode (mB 94) 111 = .ok (.newarray .int, 2) := by decide +kernel
theorem d94_113 : decode (mB 94) 113 = .ok (.putfield 49, 3) := by decide +kernel
theorem d94_116 : decode (mB 94) 116 = .ok (.aload_n 0, 1) := by decide +kernel
theorem d94_117 : decode (mB 94) 117 = .ok (.bipush 20, 2) := by decide +kernel
theorem d94_119 : decode (mB 94) 119 = .ok (.newarray .int, 2) := by decide +kernel
theorem d94_121 : decode (mB 94) 121 = .ok (.putfield 52, 3) := by decide +kernel
theorem d94_124 : decode (mB 94) 124 = .ok (.aload_n 0, 1) := by decide +kernel
theorem d94_125 : decode (mB 94) 125 = .ok (.bipush 20, 2) := by decide +kernel
theorem d94_127 : decode (mB 94) 127 = .ok (.newarray .int, 2) := by decide +kernel
theorem d94_129 : decode (mB 94) 129 = .ok (.putfield 55, 3) := by decide +kernel
theorem d94_132 : decode (mB 94) 132 = .ok (.aload_n 0, 1) := by decide +kernel
theorem d94_133 : decode (mB 94) 133 = .ok (.iconst (-1), 1) := by decide +kernel
theorem d94_134 : decode (mB 94) 134 = .ok (.putfield 58, 3) := by decide +kernel
theorem d94_137 : decode (mB 94) 137 = .ok (.aload_n 0, 1) := by decide +kernel
theorem d94_138 : decode (mB 94) 138 = .ok (.iconst 4, 1) := by decide +kernel
theorem d94_139 : decode (mB 94) 139 = .ok (.newarray .int, 2) := by decide +kernel
theorem d94_141 : decode (mB 94) 141 = .ok (.putfield 62, 3) := by decide +kernel
theorem d94_144 : decode (mB 94) 144 = .ok (.aload_n 0, 1) := by decide +kernel
theorem d94_145 : decode (mB 94) 145 = .ok (.iconst 4, 1) := by decide +kernel
theorem d94_146 : decode (mB 94) 146 = .ok (.newarray .int, 2) := by decide +kernel
theorem d94_148 : decode (mB 94) 148 = .ok (.putfield 65, 3) := by decide +kernel
theorem d94_151 : decode (mB 94) 151 = .ok (.aload_n 0, 1) := by decide +kernel
theorem d94_152 : decode (mB 94) 152 = .ok (.sipush 164, 3) := by decide +kernel
theorem d94_155 : decode (mB 94) 155 = .ok (.newarray .int, 2) := by decide +kernel
theorem d94_157 : decode (mB 94) 157 = .ok (.putfield 68, 3) := by decide +kernel
theorem d94_160 : decode (mB 94) 160 = .ok (.aload_n 0, 1) := by decide +kernel
theorem d94_161 : decode (mB 94) 161 = .ok (.sipush 164, 3) := by decide +kernel
theorem d94_164 : decode (mB 94) 164 = .ok (.newarray .int, 2) := by decide +kernel
theorem d94_166 : decode (mB 94) 166 = .ok (.putfield 71, 3) := by decide +kernel
theorem d94_169 : decode (mB 94) 169 = .ok (.aload_n 0, 1) := by decide +kernel
theorem d94_170 : decode (mB 94) 170 = .ok (.sipush 164, 3) := by decide +kernel
theorem d94_173 : decode (mB 94) 173 = .ok (.newarray .int, 2) := by decide +kernel
theorem d94_175 : decode (mB 94) 175 = .ok (.putfield 74, 3) := by decide +kernel
theorem d94_178 : decode (mB 94) 178 = .ok (.aload_n 0, 1) := by decide +kernel
theorem d94_179 : decode (mB 94) 179 = .ok (.bipush 16, 2) := by decide +kernel
theorem d94_181 : decode (mB 94) 181 = .ok (.newarray .int, 2) := by decide +kernel
theorem d94_183 : decode (mB 94) 183 = .ok (.putfield 77, 3) := by decide +kernel
theorem d94_186 : decode (mB 94) 186 = .ok (.aload_n 0, 1) := by decide +kernel
theorem d94_187 : decode (mB 94) 187 = .ok (.sipush 193, 3) := by decide +kernel
theorem d94_190 : decode (mB 94) 190 = .ok (.newarray .boolean, 2) := by decide +kernel
theorem d94_192 : decode (mB 94) 192 = .ok (.putfield 80, 3) := by decide +kernel
theorem d94_195 : decode (mB 94) 195 = .ok (.aload_n 0, 1) := by decide +kernel
theorem d94_196 : decode (mB 94) 196 = .ok (.sipush 193, 3) := by decide +kernel
theorem d94_199 : decode (mB 94) 199 = .ok (.newarray .boolean, 2) := by decide +kernel
theorem d94_201 : decode (mB 94) 201 = .ok (.putfield 84, 3) := by decide +kernel
theorem d94_204 : decode (mB 94) 204 = .ok (.aload_n 0, 1) := by decide +kernel
theorem d94_205 : decode (mB 94) 205 = .ok (.sipush 193, 3) := by decide +kernel
theorem d94_208 : decode (mB 94) 208 = .ok (.newarray .int, 2) := by decide +kernel
theorem d94_210 : decode (mB 94) 210 = .ok (.putfield 87, 3) := by decide +kernel
theorem d94_213 : decode (mB 94) 213 = .ok (.aload_n 0, 1) := by decide +kernel
theorem d94_214 : decode (mB 94) 214 = .ok (.sipush 193, 3) := by decide +kernel
theorem d94_217 : decode (mB 94) 217 = .ok (.newarray .int, 2) := by decide +kernel
theorem d94_219 : decode (mB 94) 219 = .ok (.putfield 90, 3) := by decide +kernel
theorem d94_222 : decode (mB 94) 222 = .ok (.aload_n 0, 1) := by decide +kernel
theorem d94_223 : decode (mB 94) 223 = .ok (.bipush 8, 2) := by decide +kernel
theorem d94_225 : decode (mB 94) 225 = .ok (.newarray .boolean, 2) := by decide +kernel
theorem d94_227 : decode (mB 94) 227 = .ok (.putfield 93, 3) := by decide +kernel
theorem d94_230 : decode (mB 94) 230 = .ok (.aload_n 0, 1) := by decide +kernel
theorem d94_231 : decode (mB 94) 231 = .ok (.bipush 88, 2) := by decide +kernel
theorem d94_233 : decode (mB 94) 233 = .ok (.newarray .int, 2) := by decide +kernel
theorem d94_235 : decode (mB 94) 235 = .ok (.putfield 96, 3) := by decide +kernel
theorem d94_238 : decode (mB 94) 238 = .ok (.aload_n 0, 1) := by decide +kernel
theorem d94_239 : decode (mB 94) 239 = .ok (.sipush 192, 3) := by decide +kernel
theorem d94_242 : decode (mB 94) 242 = .ok (.newarray .int, 2) := by decide +kernel
theorem d94_244 : decode (mB 94) 244 = .ok (.putfield 99, 3) := by decide +kernel
theorem d94_247 : decode (mB 94) 247 = .ok (.aload_n 0, 1) := by decide +kernel
theorem d94_248 : decode (mB 94) 248 = .ok (.iconst 4, 1) := by decide +kernel
theorem d94_249 : decode (mB 94) 249 = .ok (.newarray .int, 2) := by decide +kernel
theorem d94_251 : decode (mB 94) 251 = .ok (.putfield 102, 3) := by decide +kernel
theorem d94_254 : decode (mB 94) 254 = .ok (.aload_n 0, 1) := by decide +kernel
theorem d94_255 : decode (mB 94) 255 = .ok (.iconst 4, 1) := by decide +kernel
theorem d94_256 : decode (mB 94) 256 = .ok (.newarray .int, 2) := by decide +kernel
theorem d94_258 : decode (mB 94) 258 = .ok (.putfield 105, 3) := by decide +kernel
theorem d94_261 : decode (mB 94) 261 = .ok (.aload_n 0, 1) := by decide +kernel
theorem d94_262 : decode (mB 94) 262 = .ok (.sipush 205, 3) := by decide +kernel
theorem d94_265 : decode (mB 94) 265 = .ok (.newarray .boolean, 2) := by decide +kernel
theorem d94_267 : decode (mB 94) 267 = .ok (.putfield 108, 3) := by decide +kernel
theorem d94_270 : decode (mB 94) 270 = .ok (.aload_n 0, 1) := by decide +kernel
theorem d94_271 : decode (mB 94) 271 = .ok (.iconst 5, 1) := by decide +kernel
theorem d94_272 : decode (mB 94) 272 = .ok (.newarray .int, 2) := by decide +kernel
theorem d94_274 : decode (mB 94) 274 = .ok (.putfield 111, 3) := by decide +kernel
theorem d94_277 : decode (mB 94) 277 = .ok (.aload_n 0, 1) := by decide +kernel
theorem d94_278 : decode (mB 94) 278 = .ok (.iload_n 1, 1) := by decide +kernel
theorem d94_279 : decode (mB 94) 279 = .ok (.iconst 1, 1) := by decide +kernel
theorem d94_280 : decode (mB 94) 280 = .ok (.if_icmp .ge 7, 3) := by decide +kernel
theorem d94_283 : decode (mB 94) 283 = .ok (.iconst 1, 1) := by decide +kernel
theorem d94_284 : decode (mB 94) 284 = .ok (.goto 13, 3) := by decide +kernel
theorem d94_287 : decode (mB 94) 287 = .ok (.iload_n 1, 1) := by decide +kernel
theorem d94_288 : decode (mB 94) 288 = .ok (.iconst 4, 1) := by decide +kernel
theorem d94_289 : decode (mB 94) 289 = .ok (.if_icmp .le 7, 3) := by decide +kernel
theorem d94_292 : decode (mB 94) 292 = .ok (.iconst 4, 1) := by decide +kernel
theorem d94_293 : decode (mB 94) 293 = .ok (.goto 4, 3) := by decide +kernel
theorem d94_296 : decode (mB 94) 296 = .ok (.iload_n 1, 1) := by decide +kernel
theorem d94_297 : decode (mB 94) 297 = .ok (.putfield 114, 3) := by decide +kernel
theorem d94_300 : decode (mB 94) 300 = .ok (.aload_n 0, 1) := by decide +kernel
theorem d94_301 : decode (mB 94) 301 = .ok (.iload_n 2, 1) := by decide +kernel
theorem d94_302 : decode (mB 94) 302 = .ok (.iconst 4, 1) := by decide +kernel
theorem d94_303 : decode (mB 94) 303 = .ok (.if_icmp .ge 7, 3) := by decide +kernel
theorem d94_306 : decode (mB 94) 306 = .ok (.iconst 4, 1) := by decide +kernel
theorem d94_307 : decode (mB 94) 307 = .ok (.goto 15, 3) := by decide +kernel
theorem d94_310 : decode (mB 94) 310 = .ok (.iload_n 2, 1) := by decide +kernel
theorem d94_311 : decode (mB 94) 311 = .ok (.bipush 16, 2) := by decide +kernel
theorem d94_313 : decode (mB 94) 313 = .ok (.if_icmp .le 8, 3) := by decide +kernel
theorem d94_316 : decode (mB 94) 316 = .ok (.bipush 16, 2) := by decide +kernel
theorem d94_318 : decode (mB 94) 318 = .ok (.goto 4, 3) := by decide +kernel
theorem d94_321 : decode (mB 94) 321 = .ok (.iload_n 2, 1) := by decide +kernel
theorem d94_322 : decode (mB 94) 322 = .ok (.putfield 117, 3) := by decide +kernel
theorem d94_325 : decode (mB 94) 325 = .ok (.aload_n 0, 1) := by decide +kernel
theorem d94_326 : decode (mB 94) 326 = .ok (.iload_n 3, 1) := by decide +kernel
theorem d94_327 : decode (mB 94) 327 = .ok (.bipush 16, 2) := by decide +kernel
theorem d94_329 : decode (mB 94) 329 = .ok (.if_icmp .ge 8, 3) := by decide +kernel
theorem d94_332 : decode (mB 94) 332 = .ok (.bipush 16, 2) := by decide +kernel
theorem d94_334 : decode (mB 94) 334 = .ok (.goto 15, 3) := by decide +kernel
theorem d94_337 : decode (mB 94) 337 = .ok (.iload_n 3, 1) := by decide +kernel
theorem d94_338 : decode (mB 94) 338 = .ok (.bipush 60, 2) := by decide +kernel
theorem d94_340 : decode (mB 94) 340 = .ok (.if_icmp .le 8, 3) := by decide +kernel
theorem d94_343 : decode (mB 94) 343 = .ok (.bipush 60, 2) := by decide +kernel
theorem d94_345 : decode (mB 94) 345 = .ok (.goto 4, 3) := by decide +kernel
theorem d94_348 : decode (mB 94) 348 = .ok (.iload_n 3, 1) := by decide +kernel
theorem d94_349 : decode (mB 94) 349 = .ok (.putfield 120, 3) := by decide +kernel
theorem d94_352 : decode (mB 94) 352 = .ok (.iconst 0, 1) := by decide +kernel
theorem d94_353 : decode (mB 94) 353 = .ok (.istore 4, 2) := by decide +kernel
theorem d94_355 : decode (mB 94) 355 = .ok (.iload 4, 2) := by decide +kernel
theorem d94_357 : decode (mB 94) 357 = .ok (.bipush 26, 2) := by decide +kernel
theorem d94_359 : decode (mB 94) 359 = .ok (.if_icmp .ge 17, 3) := by decide +kernel
theorem d94_362 : decode (mB 94) 362 = .ok (.aload_n 0, 1) := by decide +kernel
theorem d94_363 : decode (mB 94) 363 = .ok (.getfield 7, 3) := by decide +kernel
theorem d94_366 : decode (mB 94) 366 = .ok (.iload 4, 2) := by decide +kernel
theorem d94_368 : decode (mB 94) 368 = .ok (.iconst 4, 1) := by decide +kernel
theorem d94_369 : decode (mB 94) 369 = .ok (.iastore, 1) := by decide +kernel
theorem d94_370 : decode (mB 94) 370 = .ok (.iinc 4 1, 3) := by decide +kernel
theorem d94_373 : decode (mB 94) 373 = .ok (.goto (-18), 3) := by decide +kernel
theorem d94_376 : decode (mB 94) 376 = .ok (.return_, 1) := by decide +kernel
theorem v94_0 (L : Nat) (xs : Nat → Int32) : zVal L xs 94 0 (.inl (i_al 0 1)) := zS_aload_n d94_0 rfl
theorem v94_1 (L : Nat) (xs : Nat → Int32) : zVal L xs 94 1 (.inl (i_oi 4)) := zS_oinit d94_1 w777 w93 w94 (by decide)
theorem v94_4 (L : Nat) (xs : Nat → Int32) : zVal L xs 94 4 (.inl (i_al 0 5)) := zS_aload_n d94_4 rfl
theorem v94_5 (L : Nat) (xs : Nat → Int32) : zVal L xs 94 5 (.inl (i_c (.int 26) 7)) := zS_bipush d94_5 (by decide)
theorem v94_7 (L : Nat) (xs : Nat → Int32) : zVal L xs 94 7 (.inl (i_na (33, 6851) 0 (.inl (fun _ => 0)) 9)) := zS_newa (ty := .int) d94_7 w150 rfl (by decide) (fun _ => rfl) (fun _ => rfl) (fun _ _ => rfl) (fun _ _ h => h)
theorem v94_9 (L : Nat) (xs : Nat → Int32) : zVal L xs 94 9 (.inl (i_pf 10 3 okR 12)) := zS_putfF (ty := .array .int) d94_9 (zcl10) (by decide) zi10 w781 zy10 zn10 (by decide +kernel) (by decide +kernel) (by decide +kernel) (by decide +kernel) (okA_ok (.int))
theorem v94_12 (L : Nat) (xs : Nat → Int32) : zVal L xs 94 12 (.inl (i_al 0 13)) := zS_aload_n d94_12 rfl
theorem v94_13 (L : Nat) (xs : Nat → Int32) : zVal L xs 94 13 (.inl (i_c (.int 26) 15)) := zS_bipush d94_13 (by decide)
theorem v94_15 (L : Nat) (xs : Nat → Int32) : zVal L xs 94 15 (.inl (i_na (33, 6851) 0 (.inl (fun _ => 0)) 17)) := zS_newa (ty := .int) d94_15 w150 rfl (by decide) (fun _ => rfl) (fun _ => rfl) (fun _ _ => rfl) (fun _ _ h => h)
theorem v94_17 (L : Nat) (xs : Nat → Int32) : zVal L xs 94 17 (.inl (i_pf 10 4 okR 20)) := zS_putfF (ty := .array .int) d94_17 (zcl10) (by decide) zi10 w782 zy10 zn10 (by decide +kernel) (by decide +kernel) (by decide +kernel) (by decide +kernel) (okA_ok (.int))
theorem v94_20 (L : Nat) (xs : Nat → Int32) : zVal L xs 94 20 (.inl (i_al 0 21)) := zS_aload_n d94_20 rfl
theorem v94_21 (L : Nat) (xs : Nat → Int32) : zVal L xs 94 21 (.inl (i_c (.int 20) 23)) := zS_bipush d94_21 (by decide)
theorem v94_23 (L : Nat) (xs : Nat → Int32) : zVal L xs 94 23 (.inl (i_na (33, 6851) 0 (.inl (fun _ => 0)) 25)) := zS_newa (ty := .int) d94_23 w150 rfl (by decide) (fun _ => rfl) (fun _ => rfl) (fun _ _ => rfl) (fun _ _ h => h)
theorem v94_25 (L : Nat) (xs : Nat → Int32) : zVal L xs 94 25 (.inl (i_pf 10 6 okR 28)) := zS_putfF (ty := .array .int) d94_25 (zcl10) (by decide) zi10 w784 zy10 zn10 (by decide +kernel) (by decide +kernel) (by decide +kernel) (by decide +kernel) (okA_ok (.int))
theorem v94_28 (L : Nat) (xs : Nat → Int32) : zVal L xs 94 28 (.inl (i_al 0 29)) := zS_aload_n d94_28 rfl
theorem v94_29 (L : Nat) (xs : Nat → Int32) : zVal L xs 94 29 (.inl (i_c (.int 120) 31)) := zS_bipush d94_29 (by decide)
theorem v94_31 (L : Nat) (xs : Nat → Int32) : zVal L xs 94 31 (.inl (i_na (33, 6851) 0 (.inl (fun _ => 0)) 33)) := zS_newa (ty := .int) d94_31 w150 rfl (by decide) (fun _ => rfl) (fun _ => rfl) (fun _ _ => rfl) (fun _ _ h => h)
theorem v94_33 (L : Nat) (xs : Nat → Int32) : zVal L xs 94 33 (.inl (i_pf 10 7 okR 36)) := zS_putfF (ty := .array .int) d94_33 (zcl10) (by decide) zi10 w785 zy10 zn10 (by decide +kernel) (by decide +kernel) (by decide +kernel) (by decide +kernel) (okA_ok (.int))
theorem v94_36 (L : Nat) (xs : Nat → Int32) : zVal L xs 94 36 (.inl (i_al 0 37)) := zS_aload_n d94_36 rfl
theorem v94_37 (L : Nat) (xs : Nat → Int32) : zVal L xs 94 37 (.inl (i_c (.int 140) 40)) := zS_sipush d94_37 (by decide)
theorem v94_40 (L : Nat) (xs : Nat → Int32) : zVal L xs 94 40 (.inl (i_na (33, 6851) 0 (.inl (fun _ => 0)) 42)) := zS_newa (ty := .int) d94_40 w150 rfl (by decide) (fun _ => rfl) (fun _ => rfl) (fun _ _ => rfl) (fun _ _ h => h)
theorem v94_42 (L : Nat) (xs : Nat → Int32) : zVal L xs 94 42 (.inl (i_pf 10 8 okR 45)) := zS_putfF (ty := .array .int) d94_42 (zcl10) (by decide) zi10 w786 zy10 zn10 (by decide +kernel) (by decide +kernel) (by decide +kernel) (by decide +kernel) (okA_ok (.int))
theorem v94_45 (L : Nat) (xs : Nat → Int32) : zVal L xs 94 45 (.inl (i_al 0 46)) := zS_aload_n d94_45 rfl
theorem v94_46 (L : Nat) (xs : Nat → Int32) : zVal L xs 94 46 (.inl (i_c (.int 14) 48)) := zS_bipush d94_46 (by decide)
theorem v94_48 (L : Nat) (xs : Nat → Int32) : zVal L xs 94 48 (.inl (i_na (33, 6851) 0 (.inl (fun _ => 0)) 50)) := zS_newa (ty := .int) d94_48 w150 rfl (by decide) (fun _ => rfl) (fun _ => rfl) (fun _ _ => rfl) (fun _ _ h => h)
theorem v94_50 (L : Nat) (xs : Nat → Int32) : zVal L xs 94 50 (.inl (i_pf 10 9 okR 53)) := zS_putfF (ty := .array .int) d94_50 (zcl10) (by decide) zi10 w787 zy10 zn10 (by decide +kernel) (by decide +kernel) (by decide +kernel) (by decide +kernel) (okA_ok (.int))
theorem v94_53 (L : Nat) (xs : Nat → Int32) : zVal L xs 94 53 (.inl (i_al 0 54)) := zS_aload_n d94_53 rfl
theorem v94_54 (L : Nat) (xs : Nat → Int32) : zVal L xs 94 54 (.inl (i_c (.int 15) 56)) := zS_bipush d94_54 (by decide)
theorem v94_56 (L : Nat) (xs : Nat → Int32) : zVal L xs 94 56 (.inl (i_na (33, 6851) 0 (.inl (fun _ => 0)) 58)) := zS_newa (ty := .int) d94_56 w150 rfl (by decide) (fun _ => rfl) (fun _ => rfl) (fun _ _ => rfl) (fun _ _ h => h)
theorem v94_58 (L : Nat) (xs : Nat → Int32) : zVal L xs 94 58 (.inl (i_pf 10 10 okR 61)) := zS_putfF (ty := .array .int) d94_58 (zcl10) (by decide) zi10 w788 zy10 zn10 (by decide +kernel) (by decide +kernel) (by decide +kernel) (by decide +kernel) (okA_ok (.int))
theorem v94_61 (L : Nat) (xs : Nat → Int32) : zVal L xs 94 61 (.inl (i_al 0 62)) := zS_aload_n d94_61 rfl
theorem v94_62 (L : Nat) (xs : Nat → Int32) : zVal L xs 94 62 (.inl (i_c (.int 480) 65)) := zS_sipush d94_62 (by decide)
theorem v94_65 (L : Nat) (xs : Nat → Int32) : zVal L xs 94 65 (.inl (i_na (33, 6851) 0 (.inl (fun _ => 0)) 67)) := zS_newa (ty := .int) d94_65 w150 rfl (by decide) (fun _ => rfl) (fun _ => rfl) (fun _ _ => rfl) (fun _ _ h => h)
theorem v94_67 (L : Nat) (xs : Nat → Int32) : zVal L xs 94 67 (.inl (i_pf 10 11 okR 70)) := zS_putfF (ty := .array .int) d94_67 (zcl10) (by decide) zi10 w789 zy10 zn10 (by decide +kernel) (by decide +kernel) (by decide +kernel) (by decide +kernel) (okA_ok (.int))
theorem v94_70 (L : Nat) (xs : Nat → Int32) : zVal L xs 94 70 (.inl (i_al 0 71)) := zS_aload_n d94_70 rfl
theorem v94_71 (L : Nat) (xs : Nat → Int32) : zVal L xs 94 71 (.inl (i_c (.int 4) 72)) := zS_iconst d94_71 (by decide)
theorem v94_72 (L : Nat) (xs : Nat → Int32) : zVal L xs 94 72 (.inl (i_na (33, 6851) 0 (.inl (fun _ => 0)) 74)) := zS_newa (ty := .int) d94_72 w150 rfl (by decide) (fun _ => rfl) (fun _ => rfl) (fun _ _ => rfl) (fun _ _ h => h)
theorem v94_74 (L : Nat) (xs : Nat → Int32) : zVal L xs 94 74 (.inl (i_pf 10 14 okR 77)) := zS_putfF (ty := .array .int) d94_74 (zcl10) (by decide) zi10 w792 zy10 zn10 (by decide +kernel) (by decide +kernel) (by decide +kernel) (by decide +kernel) (okA_ok (.int))
theorem v94_77 (L : Nat) (xs : Nat → Int32) : zVal L xs 94 77 (.inl (i_al 0 78)) := zS_aload_n d94_77 rfl
theorem v94_78 (L : Nat) (xs : Nat → Int32) : zVal L xs 94 78 (.inl (i_c (.int 4) 79)) := zS_iconst d94_78 (by decide)
theorem v94_79 (L : Nat) (xs : Nat → Int32) : zVal L xs 94 79 (.inl (i_na (33, 6851) 0 (.inl (fun _ => 0)) 81)) := zS_newa (ty := .int) d94_79 w150 rfl (by decide) (fun _ => rfl) (fun _ => rfl) (fun _ _ => rfl) (fun _ _ h => h)
theorem v94_81 (L : Nat) (xs : Nat → Int32) : zVal L xs 94 81 (.inl (i_pf 10 15 okR 84)) := zS_putfF (ty := .array .int) d94_81 (zcl10) (by decide) zi10 w793 zy10 zn10 (by decide +kernel) (by decide +kernel) (by decide +kernel) (by decide +kernel) (okA_ok (.int))
theorem v94_84 (L : Nat) (xs : Nat → Int32) : zVal L xs 94 84 (.inl (i_al 0 85)) := zS_aload_n d94_84 rfl
theorem v94_85 (L : Nat) (xs : Nat → Int32) : zVal L xs 94 85 (.inl (i_c (.int 4) 86)) := zS_iconst d94_85 (by decide)
theorem v94_86 (L : Nat) (xs : Nat → Int32) : zVal L xs 94 86 (.inl (i_na (33, 6851) 0 (.inl (fun _ => 0)) 88)) := zS_newa (ty := .int) d94_86 w150 rfl (by decide) (fun _ => rfl) (fun _ => rfl) (fun _ _ => rfl) (fun _ _ h => h)
theorem v94_88 (L : Nat) (xs : Nat → Int32) : zVal L xs 94 88 (.inl (i_pf 10 16 okR 91)) := zS_putfF (ty := .array .int) d94_88 (zcl10) (by decide) zi10 w794 zy10 zn10 (by decide +kernel) (by decide +kernel) (by decide +kernel) (by decide +kernel) (okA_ok (.int))
theorem v94_91 (L : Nat) (xs : Nat → Int32) : zVal L xs 94 91 (.inl (i_al 0 92)) := zS_aload_n d94_91 rfl
theorem v94_92 (L : Nat) (xs : Nat → Int32) : zVal L xs 94 92 (.inl (i_c (.int 4) 93)) := zS_iconst d94_92 (by decide)
theorem v94_93 (L : Nat) (xs : Nat → Int32) : zVal L xs 94 93 (.inl (i_na (33, 6851) 0 (.inl (fun _ => 0)) 95)) := zS_newa (ty := .int) d94_93 w150 rfl (by decide) (fun _ => rfl) (fun _ => rfl) (fun _ _ => rfl) (fun _ _ h => h)
theorem v94_95 (L : Nat) (xs : Nat → Int32) : zVal L xs 94 95 (.inl (i_pf 10 17 okR 98)) := zS_putfF (ty := .array .int) d94_95 (zcl10) (by decide) zi10 w795 zy10 zn10 (by decide +kernel) (by decide +kernel) (by decide +kernel) (by decide +kernel) (okA_ok (.int))
theorem v94_98 (L : Nat) (xs : Nat → Int32) : zVal L xs 94 98 (.inl (i_al 0 99)) := zS_aload_n d94_98 rfl
theorem v94_99 (L : Nat) (xs : Nat → Int32) : zVal L xs 94 99 (.inl (i_c (.int 3840) 102)) := zS_sipush d94_99 (by decide)
theorem v94_102 (L : Nat) (xs : Nat → Int32) : zVal L xs 94 102 (.inl (i_na (33, 6851) 0 (.inl (fun _ => 0)) 104)) := zS_newa (ty := .int) d94_102 w150 rfl (by decide) (fun _ => rfl) (fun _ => rfl) (fun _ _ => rfl) (fun _ _ h => h)
theorem v94_104 (L : Nat) (xs : Nat → Int32) : zVal L xs 94 104 (.inl (i_pf 10 18 okR 107)) := zS_putfF (ty := .array .int) d94_104 (zcl10) (by decide) zi10 w796 zy10 zn10 (by decide +kernel) (by decide +kernel) (by decide +kernel) (by decide +kernel) (okA_ok (.int))
theorem v94_107 (L : Nat) (xs : Nat → Int32) : zVal L xs 94 107 (.inl (i_al 0 108)) := zS_aload_n d94_107 rfl
theorem v94_108 (L : Nat) (xs : Nat → Int32) : zVal L xs 94 108 (.inl (i_c (.int 320) 111)) := zS_sipush d94_108 (by decide)
theorem v94_111 (L : Nat) (xs : Nat → Int32) : zVal L xs 94 111 (.inl (i_na (33, 6851) 0 (.inl (fun _ => 0)) 113)) := zS_newa (ty := .int) d94_111 w150 rfl (by decide) (fun _ => rfl) (fun _ => rfl) (fun _ _ => rfl) (fun _ _ h => h)
theorem v94_113 (L : Nat) (xs : Nat → Int32) : zVal L xs 94 113 (.inl (i_pf 10 19 okR 116)) := zS_putfF (ty := .array .int) d94_113 (zcl10) (by decide) zi10 w797 zy10 zn10 (by decide +kernel) (by decide +kernel) (by decide +kernel) (by decide +kernel) (okA_ok (.int))
theorem v94_116 (L : Nat) (xs : Nat → Int32) : zVal L xs 94 116 (.inl (i_al 0 117)) := zS_aload_n d94_116 rfl
theorem v94_117 (L : Nat) (xs : Nat → Int32) : zVal L xs 94 117 (.inl (i_c (.int 20) 119)) := zS_bipush d94_117 (by decide)
theorem v94_119 (L : Nat) (xs : Nat → Int32) : zVal L xs 94 119 (.inl (i_na (33, 6851) 0 (.inl (fun _ => 0)) 121)) := zS_newa (ty := .int) d94_119 w150 rfl (by decide) (fun _ => rfl) (fun _ => rfl) (fun _ _ => rfl) (fun _ _ h => h)
theorem v94_121 (L : Nat) (xs : Nat → Int32) : zVal L xs 94 121 (.inl (i_pf 10 20 okR 124)) := zS_putfF (ty := .array .int) d94_121 (zcl10) (by decide) zi10 w798 zy10 zn10 (by decide +kernel) (by decide +kernel) (by decide +kernel) (by decide +kernel) (okA_ok (.int))
theorem v94_124 (L : Nat) (xs : Nat → Int32) : zVal L xs 94 124 (.inl (i_al 0 125)) := zS_aload_n d94_124 rfl
theorem v94_125 (L : Nat) (xs : Nat → Int32) : zVal L xs 94 125 (.inl (i_c (.int 20) 127)) := zS_bipush d94_125 (by decide)
theorem v94_127 (L : Nat) (xs : Nat → Int32) : zVal L xs 94 127 (.inl (i_na (33, 6851) 0 (.inl (fun _ => 0)) 129)) := zS_newa (ty := .int) d94_127 w150 rfl (by decide) (fun _ => rfl) (fun _ => rfl) (fun _ _ => rfl) (fun _ _ h => h)
theorem v94_129 (L : Nat) (xs : Nat → Int32) : zVal L xs 94 129 (.inl (i_pf 10 21 okR 132)) := zS_putfF (ty := .array .int) d94_129 (zcl10) (by decide) zi10 w799 zy10 zn10 (by decide +kernel) (by decide +kernel) (by decide +kernel) (by decide +kernel) (okA_ok (.int))
theorem v94_132 (L : Nat) (xs : Nat → Int32) : zVal L xs 94 132 (.inl (i_al 0 133)) := zS_aload_n d94_132 rfl
theorem v94_133 (L : Nat) (xs : Nat → Int32) : zVal L xs 94 133 (.inl (i_c (.int (-1)) 134)) := zS_iconst d94_133 (by decide)
theorem v94_134 (L : Nat) (xs : Nat → Int32) : zVal L xs 94 134 (.inl (i_pf 10 23 okI 137)) := zS_putf (ty := .int) d94_134 (zcl10) (by decide) zi10 w801 zy10 zn10 (by decide +kernel) (by decide +kernel) okI_ok
theorem v94_137 (L : Nat) (xs : Nat → Int32) : zVal L xs 94 137 (.inl (i_al 0 138)) := zS_aload_n d94_137 rfl
theorem v94_138 (L : Nat) (xs : Nat → Int32) : zVal L xs 94 138 (.inl (i_c (.int 4) 139)) := zS_iconst d94_138 (by decide)
theorem v94_139 (L : Nat) (xs : Nat → Int32) : zVal L xs 94 139 (.inl (i_na (33, 6851) 0 (.inl (fun _ => 0)) 141)) := zS_newa (ty := .int) d94_139 w150 rfl (by decide) (fun _ => rfl) (fun _ => rfl) (fun _ _ => rfl) (fun _ _ h => h)
theorem v94_141 (L : Nat) (xs : Nat → Int32) : zVal L xs 94 141 (.inl (i_pf 10 25 okR 144)) := zS_putfF (ty := .array .int) d94_141 (zcl10) (by decide) zi10 w803 zy10 zn10 (by decide +kernel) (by decide +kernel) (by decide +kernel) (by decide +kernel) (okA_ok (.int))
theorem v94_144 (L : Nat) (xs : Nat → Int32) : zVal L xs 94 144 (.inl (i_al 0 145)) := zS_aload_n d94_144 rfl
theorem v94_145 (L : Nat) (xs : Nat → Int32) : zVal L xs 94 145 (.inl (i_c (.int 4) 146)) := zS_iconst d94_145 (by decide)
theorem v94_146 (L : Nat) (xs : Nat → Int32) : zVal L xs 94 146 (.inl (i_na (33, 6851) 0 (.inl (fun _ => 0)) 148)) := zS_newa (ty := .int) d94_146 w150 rfl (by decide) (fun _ => rfl) (fun _ => rfl) (fun _ _ => rfl) (fun _ _ h => h)
theorem v94_148 (L : Nat) (xs : Nat → Int32) : zVal L xs 94 148 (.inl (i_pf 10 26 okR 151)) := zS_putfF (ty := .array .int) d94_148 (zcl10) (by decide) zi10 w804 zy10 zn10 (by decide +kernel) (by decide +kernel) (by decide +kernel) (by decide +kernel) (okA_ok (.int))
theorem v94_151 (L : Nat) (xs : Nat → Int32) : zVal L xs 94 151 (.inl (i_al 0 152)) := zS_aload_n d94_151 rfl
theorem v94_152 (L : Nat) (xs : Nat → Int32) : zVal L xs 94 152 (.inl (i_c (.int 164) 155)) := zS_sipush d94_152 (by decide)
theorem v94_155 (L : Nat) (xs : Nat → Int32) : zVal L xs 94 155 (.inl (i_na (33, 6851) 0 (.inl (fun _ => 0)) 157)) := zS_newa (ty := .int) d94_155 w150 rfl (by decide) (fun _ => rfl) (fun _ => rfl) (fun _ _ => rfl) (fun _ _ h => h)
theorem v94_157 (L : Nat) (xs : Nat → Int32) : zVal L xs 94 157 (.inl (i_pf 10 27 okR 160)) := zS_putfF (ty := .array .int) d94_157 (zcl10) (by decide) zi10 w805 zy10 zn10 (by decide +kernel) (by decide +kernel) (by decide +kernel) (by decide +kernel) (okA_ok (.int))
theorem v94_160 (L : Nat) (xs : Nat → Int32) : zVal L xs 94 160 (.inl (i_al 0 161)) := zS_aload_n d94_160 rfl
theorem v94_161 (L : Nat) (xs : Nat → Int32) : zVal L xs 94 161 (.inl (i_c (.int 164) 164)) := zS_sipush d94_161 (by decide)
theorem v94_164 (L : Nat) (xs : Nat → Int32) : zVal L xs 94 164 (.inl (i_na (33, 6851) 0 (.inl (fun _ => 0)) 166)) := zS_newa (ty := .int) d94_164 w150 rfl (by decide) (fun _ => rfl) (fun _ => rfl) (fun _ _ => rfl) (fun _ _ h => h)
theorem v94_166 (L : Nat) (xs : Nat → Int32) : zVal L xs 94 166 (.inl (i_pf 10 28 okR 169)) := zS_putfF (ty := .array .int) d94_166 (zcl10) (by decide) zi10 w806 zy10 zn10 (by decide +kernel) (by decide +kernel) (by decide +kernel) (by decide +kernel) (okA_ok (.int))
theorem v94_169 (L : Nat) (xs : Nat → Int32) : zVal L xs 94 169 (.inl (i_al 0 170)) := zS_aload_n d94_169 rfl
theorem v94_170 (L : Nat) (xs : Nat → Int32) : zVal L xs 94 170 (.inl (i_c (.int 164) 173)) := zS_sipush d94_170 (by decide)
theorem v94_173 (L : Nat) (xs : Nat → Int32) : zVal L xs 94 173 (.inl (i_na (33, 6851) 0 (.inl (fun _ => 0)) 175)) := zS_newa (ty := .int) d94_173 w150 rfl (by decide) (fun _ => rfl) (fun _ => rfl) (fun _ _ => rfl) (fun _ _ h => h)
theorem v94_175 (L : Nat) (xs : Nat → Int32) : zVal L xs 94 175 (.inl (i_pf 10 29 okR 178)) := zS_putfF (ty := .array .int) d94_175 (zcl10) (by decide) zi10 w807 zy10 zn10 (by decide +kernel) (by decide +kernel) (by decide +kernel) (by decide +kernel) (okA_ok (.int))
theorem v94_178 (L : Nat) (xs : Nat → Int32) : zVal L xs 94 178 (.inl (i_al 0 179)) := zS_aload_n d94_178 rfl
theorem v94_179 (L : Nat) (xs : Nat → Int32) : zVal L xs 94 179 (.inl (i_c (.int 16) 181)) := zS_bipush d94_179 (by decide)
theorem v94_181 (L : Nat) (xs : Nat → Int32) : zVal L xs 94 181 (.inl (i_na (33, 6851) 0 (.inl (fun _ => 0)) 183)) := zS_newa (ty := .int) d94_181 w150 rfl (by decide) (fun _ => rfl) (fun _ => rfl) (fun _ _ => rfl) (fun _ _ h => h)
theorem v94_183 (L : Nat) (xs : Nat → Int32) : zVal L xs 94 183 (.inl (i_pf 10 30 okR 186)) := zS_putfF (ty := .array .int) d94_183 (zcl10) (by decide) zi10 w808 zy10 zn10 (by decide +kernel) (by decide +kernel) (by decide +kernel) (by decide +kernel) (okA_ok (.int))
theorem v94_186 (L : Nat) (xs : Nat → Int32) : zVal L xs 94 186 (.inl (i_al 0 187)) := zS_aload_n d94_186 rfl
theorem v94_187 (L : Nat) (xs : Nat → Int32) : zVal L xs 94 187 (.inl (i_c (.int 193) 190)) := zS_sipush d94_187 (by decide)
theorem v94_190 (L : Nat) (xs : Nat → Int32) : zVal L xs 94 190 (.inl (i_na (33, 6851) 3 (.inl (fun _ => 0)) 192)) := zS_newa (ty := .boolean) d94_190 w917 rfl (by decide) (fun _ => rfl) (fun _ => rfl) (fun _ _ => rfl) (fun _ _ h => h)
theorem v94_192 (L : Nat) (xs : Nat → Int32) : zVal L xs 94 192 (.inl (i_pf 10 31 okR 195)) := zS_putfF (ty := .array .boolean) d94_192 (zcl10) (by decide) zi10 w809 zy10 zn10 (by decide +kernel) (by decide +kernel) (by decide +kernel) (by decide +kernel) (okA_ok (.boolean))
theorem v94_195 (L : Nat) (xs : Nat → Int32) : zVal L xs 94 195 (.inl (i_al 0 196)) := zS_aload_n d94_195 rfl
theorem v94_196 (L : Nat) (xs : Nat → Int32) : zVal L xs 94 196 (.inl (i_c (.int 193) 199)) := zS_sipush d94_196 (by decide)
theorem v94_199 (L : Nat) (xs : Nat → Int32) : zVal L xs 94 199 (.inl (i_na (33, 6851) 3 (.inl (fun _ => 0)) 201)) := zS_newa (ty := .boolean) d94_199 w917 rfl (by decide) (fun _ => rfl) (fun _ => rfl) (fun _ _ => rfl) (fun _ _ h => h)
theorem v94_201 (L : Nat) (xs : Nat → Int32) : zVal L xs 94 201 (.inl (i_pf 10 32 okR 204)) := zS_putfF (ty := .array .boolean) d94_201 (zcl10) (by decide) zi10 w810 zy10 zn10 (by decide +kernel) (by decide +kernel) (by decide +kernel) (by decide +kernel) (okA_ok (.boolean))
theorem v94_204 (L : Nat) (xs : Nat → Int32) : zVal L xs 94 204 (.inl (i_al 0 205)) := zS_aload_n d94_204 rfl
theorem v94_205 (L : Nat) (xs : Nat → Int32) : zVal L xs 94 205 (.inl (i_c (.int 193) 208)) := zS_sipush d94_205 (by decide)
theorem v94_208 (L : Nat) (xs : Nat → Int32) : zVal L xs 94 208 (.inl (i_na (33, 6851) 0 (.inl (fun _ => 0)) 210)) := zS_newa (ty := .int) d94_208 w150 rfl (by decide) (fun _ => rfl) (fun _ => rfl) (fun _ _ => rfl) (fun _ _ h => h)
theorem v94_210 (L : Nat) (xs : Nat → Int32) : zVal L xs 94 210 (.inl (i_pf 10 33 okR 213)) := zS_putfF (ty := .array .int) d94_210 (zcl10) (by decide) zi10 w811 zy10 zn10 (by decide +kernel) (by decide +kernel) (by decide +kernel) (by decide +kernel) (okA_ok (.int))
theorem v94_213 (L : Nat) (xs : Nat → Int32) : zVal L xs 94 213 (.inl (i_al 0 214)) := zS_aload_n d94_213 rfl
theorem v94_214 (L : Nat) (xs : Nat → Int32) : zVal L xs 94 214 (.inl (i_c (.int 193) 217)) := zS_sipush d94_214 (by decide)
theorem v94_217 (L : Nat) (xs : Nat → Int32) : zVal L xs 94 217 (.inl (i_na (33, 6851) 0 (.inl (fun _ => 0)) 219)) := zS_newa (ty := .int) d94_217 w150 rfl (by decide) (fun _ => rfl) (fun _ => rfl) (fun _ _ => rfl) (fun _ _ h => h)
theorem v94_219 (L : Nat) (xs : Nat → Int32) : zVal L xs 94 219 (.inl (i_pf 10 34 okR 222)) := zS_putfF (ty := .array .int) d94_219 (zcl10) (by decide) zi10 w812 zy10 zn10 (by decide +kernel) (by decide +kernel) (by decide +kernel) (by decide +kernel) (okA_ok (.int))
theorem v94_222 (L : Nat) (xs : Nat → Int32) : zVal L xs 94 222 (.inl (i_al 0 223)) := zS_aload_n d94_222 rfl
theorem v94_223 (L : Nat) (xs : Nat → Int32) : zVal L xs 94 223 (.inl (i_c (.int 8) 225)) := zS_bipush d94_223 (by decide)
theorem v94_225 (L : Nat) (xs : Nat → Int32) : zVal L xs 94 225 (.inl (i_na (33, 6851) 3 (.inl (fun _ => 0)) 227)) := zS_newa (ty := .boolean) d94_225 w917 rfl (by decide) (fun _ => rfl) (fun _ => rfl) (fun _ _ => rfl) (fun _ _ h => h)
theorem v94_227 (L : Nat) (xs : Nat → Int32) : zVal L xs 94 227 (.inl (i_pf 10 35 okR 230)) := zS_putfF (ty := .array .boolean) d94_227 (zcl10) (by decide) zi10 w813 zy10 zn10 (by decide +kernel) (by decide +kernel) (by decide +kernel) (by decide +kernel) (okA_ok (.boolean))
theorem v94_230 (L : Nat) (xs : Nat → Int32) : zVal L xs 94 230 (.inl (i_al 0 231)) := zS_aload_n d94_230 rfl
theorem v94_231 (L : Nat) (xs : Nat → Int32) : zVal L xs 94 231 (.inl (i_c (.int 88) 233)) := zS_bipush d94_231 (by decide)
theorem v94_233 (L : Nat) (xs : Nat → Int32) : zVal L xs 94 233 (.inl (i_na (33, 6851) 0 (.inl (fun _ => 0)) 235)) := zS_newa (ty := .int) d94_233 w150 rfl (by decide) (fun _ => rfl) (fun _ => rfl) (fun _ _ => rfl) (fun _ _ h => h)
theorem v94_235 (L : Nat) (xs : Nat → Int32) : zVal L xs 94 235 (.inl (i_pf 10 36 okR 238)) := zS_putfF (ty := .array .int) d94_235 (zcl10) (by decide) zi10 w814 zy10 zn10 (by decide +kernel) (by decide +kernel) (by decide +kernel) (by decide +kernel) (okA_ok (.int))
theorem v94_238 (L : Nat) (xs : Nat → Int32) : zVal L xs 94 238 (.inl (i_al 0 239)) := zS_aload_n d94_238 rfl
theorem v94_239 (L : Nat) (xs : Nat → Int32) : zVal L xs 94 239 (.inl (i_c (.int 192) 242)) := zS_sipush d94_239 (by decide)
theorem v94_242 (L : Nat) (xs : Nat → Int32) : zVal L xs 94 242 (.inl (i_na (33, 6851) 0 (.inl (fun _ => 0)) 244)) := zS_newa (ty := .int) d94_242 w150 rfl (by decide) (fun _ => rfl) (fun _ => rfl) (fun _ _ => rfl) (fun _ _ h => h)
theorem v94_244 (L : Nat) (xs : Nat → Int32) : zVal L xs 94 244 (.inl (i_pf 10 37 okR 247)) := zS_putfF (ty := .array .int) d94_244 (zcl10) (by decide) zi10 w815 zy10 zn10 (by decide +kernel) (by decide +kernel) (by decide +kernel) (by decide +kernel) (okA_ok (.int))
theorem v94_247 (L : Nat) (xs : Nat → Int32) : zVal L xs 94 247 (.inl (i_al 0 248)) := zS_aload_n d94_247 rfl
theorem v94_248 (L : Nat) (xs : Nat → Int32) : zVal L xs 94 248 (.inl (i_c (.int 4) 249)) := zS_iconst d94_248 (by decide)
theorem v94_249 (L : Nat) (xs : Nat → Int32) : zVal L xs 94 249 (.inl (i_na (33, 6851) 0 (.inl (fun _ => 0)) 251)) := zS_newa (ty := .int) d94_249 w150 rfl (by decide) (fun _ => rfl) (fun _ => rfl) (fun _ _ => rfl) (fun _ _ h => h)
theorem v94_251 (L : Nat) (xs : Nat → Int32) : zVal L xs 94 251 (.inl (i_pf 10 38 okR 254)) := zS_putfF (ty := .array .int) d94_251 (zcl10) (by decide) zi10 w816 zy10 zn10 (by decide +kernel) (by decide +kernel) (by decide +kernel) (by decide +kernel) (okA_ok (.int))
theorem v94_254 (L : Nat) (xs : Nat → Int32) : zVal L xs 94 254 (.inl (i_al 0 255)) := zS_aload_n d94_254 rfl
theorem v94_255 (L : Nat) (xs : Nat → Int32) : zVal L xs 94 255 (.inl (i_c (.int 4) 256)) := zS_iconst d94_255 (by decide)
theorem v94_256 (L : Nat) (xs : Nat → Int32) : zVal L xs 94 256 (.inl (i_na (33, 6851) 0 (.inl (fun _ => 0)) 258)) := zS_newa (ty := .int) d94_256 w150 rfl (by decide) (fun _ => rfl) (fun _ => rfl) (fun _ _ => rfl) (fun _ _ h => h)
theorem v94_258 (L : Nat) (xs : Nat → Int32) : zVal L xs 94 258 (.inl (i_pf 10 39 okR 261)) := zS_putfF (ty := .array .int) d94_258 (zcl10) (by decide) zi10 w817 zy10 zn10 (by decide +kernel) (by decide +kernel) (by decide +kernel) (by decide +kernel) (okA_ok (.int))
theorem v94_261 (L : Nat) (xs : Nat → Int32) : zVal L xs 94 261 (.inl (i_al 0 262)) := zS_aload_n d94_261 rfl
theorem v94_262 (L : Nat) (xs : Nat → Int32) : zVal L xs 94 262 (.inl (i_c (.int 205) 265)) := zS_sipush d94_262 (by decide)
theorem v94_265 (L : Nat) (xs : Nat → Int32) : zVal L xs 94 265 (.inl (i_na (33, 6851) 3 (.inl (fun _ => 0)) 267)) := zS_newa (ty := .boolean) d94_265 w917 rfl (by decide) (fun _ => rfl) (fun _ => rfl) (fun _ _ => rfl) (fun _ _ h => h)
theorem v94_267 (L : Nat) (xs : Nat → Int32) : zVal L xs 94 267 (.inl (i_pf 10 40 okR 270)) := zS_putfF (ty := .array .boolean) d94_267 (zcl10) (by decide) zi10 w818 zy10 zn10 (by decide +kernel) (by decide +kernel) (by decide +kernel) (by decide +kernel) (okA_ok (.boolean))
theorem v94_270 (L : Nat) (xs : Nat → Int32) : zVal L xs 94 270 (.inl (i_al 0 271)) := zS_aload_n d94_270 rfl
theorem v94_271 (L : Nat) (xs : Nat → Int32) : zVal L xs 94 271 (.inl (i_c (.int 5) 272)) := zS_iconst d94_271 (by decide)
theorem v94_272 (L : Nat) (xs : Nat → Int32) : zVal L xs 94 272 (.inl (i_na (33, 6851) 0 (.inl (fun _ => 0)) 274)) := zS_newa (ty := .int) d94_272 w150 rfl (by decide) (fun _ => rfl) (fun _ => rfl) (fun _ _ => rfl) (fun _ _ h => h)
theorem v94_274 (L : Nat) (xs : Nat → Int32) : zVal L xs 94 274 (.inl (i_pf 10 41 okR 277)) := zS_putfF (ty := .array .int) d94_274 (zcl10) (by decide) zi10 w819 zy10 zn10 (by decide +kernel) (by decide +kernel) (by decide +kernel) (by decide +kernel) (okA_ok (.int))
theorem v94_277 (L : Nat) (xs : Nat → Int32) : zVal L xs 94 277 (.inl (i_al 0 278)) := zS_aload_n d94_277 rfl
theorem v94_278 (L : Nat) (xs : Nat → Int32) : zVal L xs 94 278 (.inl (i_il 1 279)) := zS_iload_n d94_278 rfl
theorem v94_279 (L : Nat) (xs : Nat → Int32) : zVal L xs 94 279 (.inl (i_c (.int 1) 280)) := zS_iconst d94_279 (by decide)
theorem v94_280 (L : Nat) (xs : Nat → Int32) : zVal L xs 94 280 (.inl (i_f2 (fun x y => decide (y ≤ x)) 287 283)) := zS_icmp_ge d94_280 (by decide)
theorem v94_283 (L : Nat) (xs : Nat → Int32) : zVal L xs 94 283 (.inl (i_c (.int 1) 284)) := zS_iconst d94_283 (by decide)
theorem v94_284 (L : Nat) (xs : Nat → Int32) : zVal L xs 94 284 (.inl (i_go 297)) := zS_goto d94_284 (by decide)
theorem v94_287 (L : Nat) (xs : Nat → Int32) : zVal L xs 94 287 (.inl (i_il 1 288)) := zS_iload_n d94_287 rfl
theorem v94_288 (L : Nat) (xs : Nat → Int32) : zVal L xs 94 288 (.inl (i_c (.int 4) 289)) := zS_iconst d94_288 (by decide)
theorem v94_289 (L : Nat) (xs : Nat → Int32) : zVal L xs 94 289 (.inl (i_f2 (fun x y => decide (x ≤ y)) 296 292)) := zS_icmp_le d94_289 (by decide)
theorem v94_292 (L : Nat) (xs : Nat → Int32) : zVal L xs 94 292 (.inl (i_c (.int 4) 293)) := zS_iconst d94_292 (by decide)
theorem v94_293 (L : Nat) (xs : Nat → Int32) : zVal L xs 94 293 (.inl (i_go 297)) := zS_goto d94_293 (by decide)
theorem v94_296 (L : Nat) (xs : Nat → Int32) : zVal L xs 94 296 (.inl (i_il 1 297)) := zS_iload_n d94_296 rfl
theorem v94_297 (L : Nat) (xs : Nat → Int32) : zVal L xs 94 297 (.inl (i_k [false, true, false, false, true] (i_pf 10 0 okI 300))) := zS_k (zS_putfF (ty := .int) d94_297 (zcl10) (by decide) zi10 w778 zy10 zn10 (by decide +kernel) (by decide +kernel) (by decide +kernel) (by decide +kernel) okI_ok)
theorem v94_300 (L : Nat) (xs : Nat → Int32) : zVal L xs 94 300 (.inl (i_al 0 301)) := zS_aload_n d94_300 rfl
theorem v94_301 (L : Nat) (xs : Nat → Int32) : zVal L xs 94 301 (.inl (i_il 2 302)) := zS_iload_n d94_301 rfl
theorem v94_302 (L : Nat) (xs : Nat → Int32) : zVal L xs 94 302 (.inl (i_c (.int 4) 303)) := zS_iconst d94_302 (by decide)
theorem v94_303 (L : Nat) (xs : Nat → Int32) : zVal L xs 94 303 (.inl (i_f2 (fun x y => decide (y ≤ x)) 310 306)) := zS_icmp_ge d94_303 (by decide)
theorem v94_306 (L : Nat) (xs : Nat → Int32) : zVal L xs 94 306 (.inl (i_c (.int 4) 307)) := zS_iconst d94_306 (by decide)
theorem v94_307 (L : Nat) (xs : Nat → Int32) : zVal L xs 94 307 (.inl (i_go 322)) := zS_goto d94_307 (by decide)
theorem v94_310 (L : Nat) (xs : Nat → Int32) : zVal L xs 94 310 (.inl (i_il 2 311)) := zS_iload_n d94_310 rfl
theorem v94_311 (L : Nat) (xs : Nat → Int32) : zVal L xs 94 311 (.inl (i_c (.int 16) 313)) := zS_bipush d94_311 (by decide)
theorem v94_313 (L : Nat) (xs : Nat → Int32) : zVal L xs 94 313 (.inl (i_f2 (fun x y => decide (x ≤ y)) 321 316)) := zS_icmp_le d94_313 (by decide)
theorem v94_316 (L : Nat) (xs : Nat → Int32) : zVal L xs 94 316 (.inl (i_c (.int 16) 318)) := zS_bipush d94_316 (by decide)
theorem v94_318 (L : Nat) (xs : Nat → Int32) : zVal L xs 94 318 (.inl (i_go 322)) := zS_goto d94_318 (by decide)
theorem v94_321 (L : Nat) (xs : Nat → Int32) : zVal L xs 94 321 (.inl (i_il 2 322)) := zS_iload_n d94_321 rfl
theorem v94_322 (L : Nat) (xs : Nat → Int32) : zVal L xs 94 322 (.inl (i_k [false, true, true, false, true] (i_pf 10 1 okI 325))) := zS_k (zS_putfF (ty := .int) d94_322 (zcl10) (by decide) zi10 w779 zy10 zn10 (by decide +kernel) (by decide +kernel) (by decide +kernel) (by decide +kernel) okI_ok)
theorem v94_325 (L : Nat) (xs : Nat → Int32) : zVal L xs 94 325 (.inl (i_al 0 326)) := zS_aload_n d94_325 rfl
theorem v94_326 (L : Nat) (xs : Nat → Int32) : zVal L xs 94 326 (.inl (i_il 3 327)) := zS_iload_n d94_326 rfl
theorem v94_327 (L : Nat) (xs : Nat → Int32) : zVal L xs 94 327 (.inl (i_c (.int 16) 329)) := zS_bipush d94_327 (by decide)
theorem v94_329 (L : Nat) (xs : Nat → Int32) : zVal L xs 94 329 (.inl (i_f2 (fun x y => decide (y ≤ x)) 337 332)) := zS_icmp_ge d94_329 (by decide)
theorem v94_332 (L : Nat) (xs : Nat → Int32) : zVal L xs 94 332 (.inl (i_c (.int 16) 334)) := zS_bipush d94_332 (by decide)
theorem v94_334 (L : Nat) (xs : Nat → Int32) : zVal L xs 94 334 (.inl (i_go 349)) := zS_goto d94_334 (by decide)
theorem v94_337 (L : Nat) (xs : Nat → Int32) : zVal L xs 94 337 (.inl (i_il 3 338)) := zS_iload_n d94_337 rfl
theorem v94_338 (L : Nat) (xs : Nat → Int32) : zVal L xs 94 338 (.inl (i_c (.int 60) 340)) := zS_bipush d94_338 (by decide)
theorem v94_340 (L : Nat) (xs : Nat → Int32) : zVal L xs 94 340 (.inl (i_f2 (fun x y => decide (x ≤ y)) 348 343)) := zS_icmp_le d94_340 (by decide)
theorem v94_343 (L : Nat) (xs : Nat → Int32) : zVal L xs 94 343 (.inl (i_c (.int 60) 345)) := zS_bipush d94_343 (by decide)
theorem v94_345 (L : Nat) (xs : Nat → Int32) : zVal L xs 94 345 (.inl (i_go 349)) := zS_goto d94_345 (by decide)
theorem v94_348 (L : Nat) (xs : Nat → Int32) : zVal L xs 94 348 (.inl (i_il 3 349)) := zS_iload_n d94_348 rfl
theorem v94_349 (L : Nat) (xs : Nat → Int32) : zVal L xs 94 349 (.inl (i_k [false, true, true, true, true] (i_pf 10 2 okI 352))) := zS_k (zS_putfF (ty := .int) d94_349 (zcl10) (by decide) zi10 w780 zy10 zn10 (by decide +kernel) (by decide +kernel) (by decide +kernel) (by decide +kernel) okI_ok)
theorem v94_352 (L : Nat) (xs : Nat → Int32) : zVal L xs 94 352 (.inl (i_c (.int 0) 353)) := zS_iconst d94_352 (by decide)
theorem v94_353 (L : Nat) (xs : Nat → Int32) : zVal L xs 94 353 (.inl (i_is 4 355)) := zS_istore d94_353
theorem v94_355 (L : Nat) (xs : Nat → Int32) : zVal L xs 94 355 (.inl (i_k [false, true, true, true, false] (i_il 4 357))) := zS_k (zS_iload d94_355)
theorem v94_357 (L : Nat) (xs : Nat → Int32) : zVal L xs 94 357 (.inl (i_c (.int 26) 359)) := zS_bipush d94_357 (by decide)
theorem v94_359 (L : Nat) (xs : Nat → Int32) : zVal L xs 94 359 (.inl (i_f2 (fun x y => decide (y ≤ x)) 376 362)) := zS_icmp_ge d94_359 (by decide)
theorem v94_362 (L : Nat) (xs : Nat → Int32) : zVal L xs 94 362 (.inl (i_al 0 363)) := zS_aload_n d94_362 rfl
theorem v94_363 (L : Nat) (xs : Nat → Int32) : zVal L xs 94 363 (.inl (i_gf 10 3 366)) := zS_getf d94_363 (zcl10) (by decide) zi10 w781
theorem v94_366 (L : Nat) (xs : Nat → Int32) : zVal L xs 94 366 (.inl (i_il 4 368)) := zS_iload d94_366
theorem v94_368 (L : Nat) (xs : Nat → Int32) : zVal L xs 94 368 (.inl (i_c (.int 4) 369)) := zS_iconst d94_368 (by decide)
theorem v94_369 (L : Nat) (xs : Nat → Int32) : zVal L xs 94 369 (.inl (i_pa 0 (fun x => x) 370)) := zS_iast d94_369
theorem v94_370 (L : Nat) (xs : Nat → Int32) : zVal L xs 94 370 (.inl (i_in 4 1 373)) := zS_iinc d94_370 (by decide)
theorem v94_373 (L : Nat) (xs : Nat → Int32) : zVal L xs 94 373 (.inl (i_go 355)) := zS_goto d94_373 (by decide)
theorem v94_376 (L : Nat) (xs : Nat → Int32) : zVal L xs 94 376 (.inr (.inr 0)) := zr_0 d94_376 rfl
theorem vt94_0 (L : Nat) (xs : Nat → Int32) : zAll (fun x => zVal L xs 94 x.1 x.2) (tb94_0) := ⟨v94_0 L xs, v94_1 L xs, v94_4 L xs, v94_5 L xs, v94_7 L xs, v94_9 L xs, v94_12 L xs, v94_13 L xs, v94_15 L xs, v94_17 L xs, v94_20 L xs, v94_21 L xs, v94_23 L xs, v94_25 L xs, v94_28 L xs, v94_29 L xs, v94_31 L xs, v94_33 L xs, v94_36 L xs, v94_37 L xs, v94_40 L xs, v94_42 L xs, v94_45 L xs, v94_46 L xs, v94_48 L xs, v94_50 L xs, v94_53 L xs, v94_54 L xs, v94_56 L xs, v94_58 L xs, v94_61 L xs, v94_62 L xs, v94_65 L xs, v94_67 L xs, v94_70 L xs, v94_71 L xs, v94_72 L xs, v94_74 L xs, v94_77 L xs, v94_78 L xs, v94_79 L xs, v94_81 L xs, v94_84 L xs, v94_85 L xs, v94_86 L xs, v94_88 L xs, v94_91 L xs, v94_92 L xs, v94_93 L xs, v94_95 L xs, v94_98 L xs, v94_99 L xs, v94_102 L xs, v94_104 L xs, v94_107 L xs, v94_108 L xs, v94_111 L xs, v94_113 L xs, v94_116 L xs, v94_117 L xs, v94_119 L xs, v94_121 L xs, v94_124 L xs, v94_125 L xs, v94_127 L xs, v94_129 L xs, v94_132 L xs, v94_133 L xs, v94_134 L xs, v94_137 L xs, v94_138 L xs, v94_139 L xs, v94_141 L xs, v94_144 L xs, v94_145 L xs, v94_146 L xs, v94_148 L xs, v94_151 L xs, v94_152 L xs, v94_155 L xs, v94_157 L xs, v94_160 L xs, v94_161 L xs, v94_164 L xs, v94_166 L xs, v94_169 L xs, v94_170 L xs, v94_173 L xs, v94_175 L xs, v94_178 L xs, v94_179 L xs, v94_181 L xs, v94_183 L xs, v94_186 L xs, v94_187 L xs, v94_190 L xs, v94_192 L xs, v94_195 L xs, v94_196 L xs, v94_199 L xs, v94_201 L xs, v94_204 L xs, v94_205 L xs, v94_208 L xs, v94_210 L xs, v94_213 L xs, v94_214 L xs, v94_217 L xs, v94_219 L xs, v94_222 L xs, v94_223 L xs, v94_225 L xs, v94_227 L xs, v94_230 L xs, v94_231 L xs, v94_233 L xs, v94_235 L xs, v94_238 L xs, v94_239 L xs, v94_242 L xs, trivial⟩
theorem vt94_1 (L : Nat) (xs : Nat → Int32) : zAll (fun x => zVal L xs 94 x.1 x.2) (tb94_1) := ⟨v94_244 L xs, v94_247 L xs, v94_248 L xs, v94_249 L xs, v94_251 L xs, v94_254 L xs, v94_255 L xs, v94_256 L xs, v94_258 L xs, v94_261 L xs, v94_262 L xs, v94_265 L xs, v94_267 L xs, v94_270 L xs, v94_271 L xs, v94_272 L xs, v94_274 L xs, v94_277 L xs, v94_278 L xs, v94_279 L xs, v94_280 L xs, v94_283 L xs, v94_284 L xs, v94_287 L xs, v94_288 L xs, v94_289 L xs, v94_292 L xs, v94_293 L xs, v94_296 L xs, v94_297 L xs, v94_300 L xs, v94_301 L xs, v94_302 L xs, v94_303 L xs, v94_306 L xs, v94_307 L xs, v94_310 L xs, v94_311 L xs, v94_313 L xs, v94_316 L xs, v94_318 L xs, v94_321 L xs, v94_322 L xs, v94_325 L xs, v94_326 L xs, v94_327 L xs, v94_329 L xs, v94_332 L xs, v94_334 L xs, v94_337 L xs, v94_338 L xs, v94_340 L xs, v94_343 L xs, v94_345 L xs, v94_348 L xs, v94_349 L xs, v94_352 L xs, v94_353 L xs, v94_355 L xs, v94_357 L xs, v94_359 L xs, v94_362 L xs, v94_363 L xs, v94_366 L xs, v94_368 L xs, v94_369 L xs, v94_370 L xs, v94_373 L xs, v94_376 L xs, trivial⟩
theorem vt94 (L : Nat) (xs : Nat → Int32) : zAll (fun x => zVal L xs 94 x.1 x.2) (tb94) := zAll_app (vt94_0 L xs) (vt94_1 L xs)
theorem d95_0 : decode (mB 95) 0 = .ok (.iload_n 0, 1) := by decide +kernel
theorem d95_1 : decode (mB 95) 1 = .ok (.bipush 97, 2) := by decide +kernel
theorem d95_3 : decode (mB 95) 3 = .ok (.if_icmp .lt 13, 3) := by decide +kernel
theorem d95_6 : decode (mB 95) 6 = .ok (.iload_n 0, 1) := by decide +kernel
theorem d95_7 : decode (mB 95) 7 = .ok (.bipush 122, 2) := by decide +kernel
theorem d95_9 : decode (mB 95) 9 = .ok (.if_icmp .gt 7, 3) := by decide +kernel
theorem d95_12 : decode (mB 95) 12 = .ok (.iconst 1, 1) := by decide +kernel
theorem d95_13 : decode (mB 95) 13 = .ok (.goto 4, 3) := by decide +kernel
theorem d95_16 : decode (mB 95) 16 = .ok (.iconst 0, 1) := by decide +kernel
theorem d95_17 : decode (mB 95) 17 = .ok (.ireturn, 1) := by decide +kernel
theorem v95_0 (L : Nat) (xs : Nat → Int32) : zVal L xs 95 0 (.inl (i_il 0 1)) := zS_iload_n d95_0 rfl
theorem v95_1 (L : Nat) (xs : Nat → Int32) : zVal L xs 95 1 (.inl (i_c (.int 97) 3)) := zS_bipush d95_1 (by decide)
theorem v95_3 (L : Nat) (xs : Nat → Int32) : zVal L xs 95 3 (.inl (i_f2 (fun x y => decide (x < y)) 16 6)) := zS_icmp_lt d95_3 (by decide)
theorem v95_6 (L : Nat) (xs : Nat → Int32) : zVal L xs 95 6 (.inl (i_il 0 7)) := zS_iload_n d95_6 rfl
theorem v95_7 (L : Nat) (xs : Nat → Int32) : zVal L xs 95 7 (.inl (i_c (.int 122) 9)) := zS_bipush d95_7 (by decide)
theorem v95_9 (L : Nat) (xs : Nat → Int32) : zVal L xs 95 9 (.inl (i_f2 (fun x y => decide (y < x)) 16 12)) := zS_icmp_gt d95_9 (by decide)
theorem v95_12 (L : Nat) (xs : Nat → Int32) : zVal L xs 95 12 (.inl (i_c (.int 1) 13)) := zS_iconst d95_12 (by decide)
theorem v95_13 (L : Nat) (xs : Nat → Int32) : zVal L xs 95 13 (.inl (i_go 17)) := zS_goto d95_13 (by decide)
theorem v95_16 (L : Nat) (xs : Nat → Int32) : zVal L xs 95 16 (.inl (i_k [true] (i_c (.int 0) 17))) := zS_k (zS_iconst d95_16 (by decide))
theorem v95_17 (L : Nat) (xs : Nat → Int32) : zVal L xs 95 17 (.inr (.inr 2)) := zr_2 d95_17 rfl
theorem vt95 (L : Nat) (xs : Nat → Int32) : zAll (fun x => zVal L xs 95 x.1 x.2) (tb95) := ⟨v95_0 L xs, v95_1 L xs, v95_3 L xs, v95_6 L xs, v95_7 L xs, v95_9 L xs, v95_12 L xs, v95_13 L xs, v95_16 L xs, v95_17 L xs, trivial⟩
theorem d96_0 : decode (mB 96) 0 = .ok (.iload_n 1, 1) := by decide +kernel
theorem d96_1 : decode (mB 96) 1 = .ok (.invokestatic 123, 3) := by decide +kernel
theorem d96_4 : decode (mB 96) 4 = .ok (.ifCond .eq 14, 3) := by decide +kernel
theorem d96_7 : decode (mB 96) 7 = .ok (.iload_n 2, 1) := by decide +kernel
theorem d96_8 : decode (mB 96) 8 = .ok (.iconst 1, 1) := by decide +kernel
theorem d96_9 : decode (mB 96) 9 = .ok (.if_icmp .lt 9, 3) := by decide +kernel
theorem d96_12 : decode (mB 96) 12 = .ok (.iload_n 2, 1) := by decide +kernel
theorem d96_13 : decode (mB 96) 13 = .ok (.bipush 9, 2) := by decide +kernel
theorem d96_15 : decode (mB 96) 15 = .ok (.if_icmp .le 5, 3) := by decide +kernel
theorem d96_18 : decode (mB 96) 18 = .ok (.iconst 0, 1) := by decide +kernel
theorem d96_19 : decode (mB 96) 19 = .ok (.ireturn, 1) := by decide +kernel
theorem d96_20 : decode (mB 96) 20 = .ok (.aload_n 0, 1) := by decide +kernel
theorem d96_21 : decode (mB 96) 21 = .ok (.getfield 7, 3) := by decide +kernel
theorem d96_24 : decode (mB 96) 24 = .ok (.iload_n 1, 1) := by decide +kernel
theorem d96_25 : decode (mB 96) 25 = .ok (.bipush 97, 2) := by decide +kernel
theorem d96_27 : decode (mB 96) 27 = .ok (.isub, 1) := by decide +kernel
theorem d96_28 : decode (mB 96) 28 = .ok (.iload_n 2, 1) := by decide +kernel
theorem d96_29 : decode (mB 96) 29 = .ok (.iastore, 1) := by decide +kernel
theorem d96_30 : decode (mB 96) 30 = .ok (.iconst 1, 1) := by decide +kernel
theorem d96_31 : decode (mB 96) 31 = .ok (.ireturn, 1) := by decide +kernel
theorem v96_0 (L : Nat) (xs : Nat → Int32) : zVal L xs 96 0 (.inl (i_il 1 1)) := zS_iload_n d96_0 rfl
theorem v96_1 (L : Nat) (xs : Nat → Int32) : zVal L xs 96 1 (.inr (.inl (95, 1, 0))) := ⟨by decide +kernel, by decide +kernel, zc_static d96_1 w924 w922 w923 w85 ⟨by decide +kernel, by decide +kernel, by decide +kernel⟩ (by decide) (by decide)⟩
theorem v96_4 (L : Nat) (xs : Nat → Int32) : zVal L xs 96 4 (.inl (i_f1 (fun x => decide (x = 0)) 18 7)) := zS_if_eq d96_4 (by decide)
theorem v96_7 (L : Nat) (xs : Nat → Int32) : zVal L xs 96 7 (.inl (i_il 2 8)) := zS_iload_n d96_7 rfl
theorem v96_8 (L : Nat) (xs : Nat → Int32) : zVal L xs 96 8 (.inl (i_c (.int 1) 9)) := zS_iconst d96_8 (by decide)
theorem v96_9 (L : Nat) (xs : Nat → Int32) : zVal L xs 96 9 (.inl (i_f2 (fun x y => decide (x < y)) 18 12)) := zS_icmp_lt d96_9 (by decide)
theorem v96_12 (L : Nat) (xs : Nat → Int32) : zVal L xs 96 12 (.inl (i_il 2 13)) := zS_iload_n d96_12 rfl
theorem v96_13 (L : Nat) (xs : Nat → Int32) : zVal L xs 96 13 (.inl (i_c (.int 9) 15)) := zS_bipush d96_13 (by decide)
theorem v96_15 (L : Nat) (xs : Nat → Int32) : zVal L xs 96 15 (.inl (i_f2 (fun x y => decide (x ≤ y)) 20 18)) := zS_icmp_le d96_15 (by decide)
theorem v96_18 (L : Nat) (xs : Nat → Int32) : zVal L xs 96 18 (.inl (i_k [true, true, true] (i_c (.int 0) 19))) := zS_k (zS_iconst d96_18 (by decide))
theorem v96_19 (L : Nat) (xs : Nat → Int32) : zVal L xs 96 19 (.inr (.inr 2)) := zr_2 d96_19 rfl
theorem v96_20 (L : Nat) (xs : Nat → Int32) : zVal L xs 96 20 (.inl (i_al 0 21)) := zS_aload_n d96_20 rfl
theorem v96_21 (L : Nat) (xs : Nat → Int32) : zVal L xs 96 21 (.inl (i_gf 10 3 24)) := zS_getf d96_21 (zcl10) (by decide) zi10 w781
theorem v96_24 (L : Nat) (xs : Nat → Int32) : zVal L xs 96 24 (.inl (i_il 1 25)) := zS_iload_n d96_24 rfl
theorem v96_25 (L : Nat) (xs : Nat → Int32) : zVal L xs 96 25 (.inl (i_c (.int 97) 27)) := zS_bipush d96_25 (by decide)
theorem v96_27 (L : Nat) (xs : Nat → Int32) : zVal L xs 96 27 (.inl (i_bi (fun x y => x - y) 28)) := zS_isub d96_27
theorem v96_28 (L : Nat) (xs : Nat → Int32) : zVal L xs 96 28 (.inl (i_il 2 29)) := zS_iload_n d96_28 rfl
theorem v96_29 (L : Nat) (xs : Nat → Int32) : zVal L xs 96 29 (.inl (i_pa 0 (fun x => x) 30)) := zS_iast d96_29
theorem v96_30 (L : Nat) (xs : Nat → Int32) : zVal L xs 96 30 (.inl (i_c (.int 1) 31)) := zS_iconst d96_30 (by decide)
theorem v96_31 (L : Nat) (xs : Nat → Int32) : zVal L xs 96 31 (.inr (.inr 2)) := zr_2 d96_31 rfl
theorem vt96 (L : Nat) (xs : Nat → Int32) : zAll (fun x => zVal L xs 96 x.1 x.2) (tb96) := ⟨v96_0 L xs, v96_1 L xs, v96_4 L xs, v96_7 L xs, v96_8 L xs, v96_9 L xs, v96_12 L xs, v96_13 L xs, v96_15 L xs, v96_18 L xs, v96_19 L xs, v96_20 L xs, v96_21 L xs, v96_24 L xs, v96_25 L xs, v96_27 L xs, v96_28 L xs, v96_29 L xs, v96_30 L xs, v96_31 L xs, trivial⟩
theorem d97_0 : decode (mB 97) 0 = .ok (.lload_n 0, 1) := by decide +kernel
theorem d97_1 : decode (mB 97) 1 = .ok (.bipush 8, 2) := by decide +kernel
theorem d97_3 : decode (mB 97) 3 = .ok (.iload_n 2, 1) := by decide +kernel
theorem d97_4 : decode (mB 97) 4 = .ok (.iconst 1, 1) := by decide +kernel
theorem d97_5 : decode (mB 97) 5 = .ok (.isub, 1) := by decide +kernel
theorem d97_6 : decode (mB 97) 6 = .ok (.iload_n 3, 1) := by decide +kernel
theorem d97_7 : decode (mB 97) 7 = .ok (.isub, 1) := by decide +kernel
theorem d97_8 : decode (mB 97) 8 = .ok (.imul, 1) := by decide +kernel
theorem d97_9 : decode (mB 97) 9 = .ok (.lshr, 1) := by decide +kernel
theorem d97_10 : decode (mB 97) 10 = .ok (.ldc2_w 127, 3) := by decide +kernel
theorem d97_13 : decode (mB 97) 13 = .ok (.land, 1) := by decide +kernel
theorem d97_14 : decode (mB 97) 14 = .ok (.l2i, 1) := by decide +kernel
theorem d97_15 : decode (mB 97) 15 = .ok (.ireturn, 1) := by decide +kernel
theorem v97_0 (L : Nat) (xs : Nat → Int32) : zVal L xs 97 0 (.inl (i_ll 0 1)) := zS_lload_n d97_0 rfl
theorem v97_1 (L : Nat) (xs : Nat → Int32) : zVal L xs 97 1 (.inl (i_c (.int 8) 3)) := zS_bipush d97_1 (by decide)
theorem v97_3 (L : Nat) (xs : Nat → Int32) : zVal L xs 97 3 (.inl (i_il 2 4)) := zS_iload_n d97_3 rfl
theorem v97_4 (L : Nat) (xs : Nat → Int32) : zVal L xs 97 4 (.inl (i_c (.int 1) 5)) := zS_iconst d97_4 (by decide)
theorem v97_5 (L : Nat) (xs : Nat → Int32) : zVal L xs 97 5 (.inl (i_bi (fun x y => x - y) 6)) := zS_isub d97_5
theorem v97_6 (L : Nat) (xs : Nat → Int32) : zVal L xs 97 6 (.inl (i_il 3 7)) := zS_iload_n d97_6 rfl
theorem v97_7 (L : Nat) (xs : Nat → Int32) : zVal L xs 97 7 (.inl (i_bi (fun x y => x - y) 8)) := zS_isub d97_7
theorem v97_8 (L : Nat) (xs : Nat → Int32) : zVal L xs 97 8 (.inl (i_bi (fun x y => x * y) 9)) := zS_imul d97_8
theorem v97_9 (L : Nat) (xs : Nat → Int32) : zVal L xs 97 9 (.inl (i_sl (fun x y => x >>> (y.toInt64 &&& 63)) 10)) := zS_lshr d97_9
theorem v97_10 (L : Nat) (xs : Nat → Int32) : zVal L xs 97 10 (.inl (i_c (.long 255) 13)) := zS_ldc2 d97_10 w935
theorem v97_13 (L : Nat) (xs : Nat → Int32) : zVal L xs 97 13 (.inl (i_bl (fun x y => x &&& y) 14)) := zS_land d97_13
theorem v97_14 (L : Nat) (xs : Nat → Int32) : zVal L xs 97 14 (.inl (i_l2i 15)) := zS_l2i d97_14
theorem v97_15 (L : Nat) (xs : Nat → Int32) : zVal L xs 97 15 (.inr (.inr 1)) := zr_1 d97_15 rfl
theorem vt97 (L : Nat) (xs : Nat → Int32) : zAll (fun x => zVal L xs 97 x.1 x.2) (tb97) := ⟨v97_0 L xs, v97_1 L xs, v97_3 L xs, v97_4 L xs, v97_5 L xs, v97_6 L xs, v97_7 L xs, v97_8 L xs, v97_9 L xs, v97_10 L xs, v97_13 L xs, v97_14 L xs, v97_15 L xs, trivial⟩
theorem d98_0 : decode (mB 98) 0 = .ok (.iconst 1, 1) := by decide +kernel
theorem d98_1 : decode (mB 98) 1 = .ok (.istore_n 3, 1) := by decide +kernel
theorem d98_2 : decode (mB 98) 2 = .ok (.iconst 0, 1) := by decide +kernel
theorem d98_3 : decode (mB 98) 3 = .ok (.istore 4, 2) := by decide +kernel
theorem d98_5 : decode (mB 98) 5 = .ok (.iconst 0, 1) := by decide +kernel
theorem d98_6 : decode (mB 98) 6 = .ok (.istore 5, 2) := by decide +kernel
theorem d98_8 : decode (mB 98) 8 = .ok (.iload 5, 2) := by decide +kernel
theorem d98_10 : decode (mB 98) 10 = .ok (.iload_n 2, 1) := by decide +kernel
theorem d98_11 : decode (mB 98) 11 = .ok (.if_icmp .ge 75, 3) := by decide +kernel
theorem d98_14 : decode (mB 98) 14 = .ok (.lload_n 0, 1) := by decide +kernel
theorem d98_15 : decode (mB 98) 15 = .ok (.iload_n 2, 1) := by decide +kernel
theorem d98_16 : decode (mB 98) 16 = .ok (.iload 5, 2) := by decide +kernel
theorem d98_18 : decode (mB 98) 18 = .ok (.invokestatic 129, 3) := by decide +kernel
theorem d98_21 : decode (mB 98) 21 = .ok (.istore 6, 2) := by decide +kernel
theorem d98_23 : decode (mB 98) 23 = .ok (.iload 6, 2) := by decide +kernel
theorem d98_25 : decode (mB 98) 25 = .ok (.invokestatic 123, 3) := by decide +kernel
theorem d98_28 : decode (mB 98) 28 = .ok (.ifCond .eq 10, 3) := by decide +kernel
theorem d98_31 : decode (mB 98) 31 = .ok (.iload 4, 2) := by decide +kernel
theorem d98_33 : decode (mB 98) 33 = .ok (.iconst 1, 1) := by decide +kernel
theorem d98_34 : decode (mB 98) 34 = .ok (.iadd, 1) := by decide +kernel
theorem d98_35 : decode (mB 98) 35 = .ok (.goto 5, 3) := by decide +kernel
theorem d98_38 : decode (mB 98) 38 = .ok (.iload 4, 2) := by decide +kernel
theorem d98_40 : decode (mB 98) 40 = .ok (.istore 4, 2) := by decide +kernel
theorem d98_42 : decode (mB 98) 42 = .ok (.iload_n 3, 1) := by decide +kernel
theorem d98_43 : decode (mB 98) 43 = .ok (.ifCond .eq 35, 3) := by decide +kernel
theorem d98_46 : decode (mB 98) 46 = .ok (.iload 6, 2) := by decide +kernel
theorem d98_48 : decode (mB 98) 48 = .ok (.invokestatic 123, 3) := by decide +kernel
theorem d98_51 : decode (mB 98) 51 = .ok (.ifCond .ne 23, 3) := by decide +kernel
theorem d98_54 : decode (mB 98) 54 = .ok (.iload 6, 2) := by decide +kernel
theorem d98_56 : decode (mB 98) 56 = .ok (.bipush 46, 2) := by decide +kernel
theorem d98_58 : decode (mB 98) 58 = .ok (.if_icmp .ne 20, 3) := by decide +kernel
theorem d98_61 : decode (mB 98) 61 = .ok (.iload 5, 2) := by decide +kernel
theorem d98_63 : decode (mB 98) 63 = .ok (.ifCond .eq 11, 3) := by decide +kernel
theorem d98_66 : decode (mB 98) 66 = .ok (.iload 5, 2) := by decide +kernel
theorem d98_68 : decode (mB 98) 68 = .ok (.iload_n 2, 1) := by decide +kernel
theorem d98_69 : decode (mB 98) 69 = .ok (.iconst 1, 1) := by decide +kernel
theorem d98_70 : decode (mB 98) 70 = .ok (.isub, 1) := by decide +kernel
theorem d98_71 : decode (mB 98) 71 = .ok (.if_icmp .ne 7, 3) := by decide +kernel
theorem d98_74 : decode (mB 98) 74 = .ok (.iconst 1, 1) := by decide +kernel
theorem d98_75 : decode (mB 98) 75 = .ok (.goto 4, 3) := by decide +kernel
theorem d98_78 : decode (mB 98) 78 = .ok (.iconst 0, 1) := by decide +kernel
theorem d98_79 : decode (mB 98) 79 = .ok (.istore_n 3, 1) := by decide +kernel
theorem d98_80 : decode (mB 98) 80 = .ok (.iinc 5 1, 3) := by decide +kernel
theorem d98_83 : decode (mB 98) 83 = .ok (.goto (-75), 3) := by decide +kernel
theorem d98_86 : decode (mB 98) 86 = .ok (.iload_n 3, 1) := by decide +kernel
theorem d98_87 : decode (mB 98) 87 = .ok (.ifCond .eq 12, 3) := by decide +kernel
theorem d98_90 : decode (mB 98) 90 = .ok (.iload 4, 2) := by decide +kernel
theorem d98_92 : decode (mB 98) 92 = .ok (.ifCond .le 7, 3) := by decide +kernel
theorem d98_95 : decode (mB 98) 95 = .ok (.iconst 1, 1) := by decide +kernel
theorem d98_96 : decode (mB 98) 96 = .ok (.goto 4, 3) := by decide +kernel
theorem d98_99 : decode (mB 98) 99 = .ok (.iconst 0, 1) := by decide +kernel
theorem d98_100 : decode (mB 98) 100 = .ok (.ireturn, 1) := by decide +kernel
theorem v98_0 (L : Nat) (xs : Nat → Int32) : zVal L xs 98 0 (.inl (i_c (.int 1) 1)) := zS_iconst d98_0 (by decide)
theorem v98_1 (L : Nat) (xs : Nat → Int32) : zVal L xs 98 1 (.inl (i_is 3 2)) := zS_istore_n d98_1 rfl
theorem v98_2 (L : Nat) (xs : Nat → Int32) : zVal L xs 98 2 (.inl (i_c (.int 0) 3)) := zS_iconst d98_2 (by decide)
theorem v98_3 (L : Nat) (xs : Nat → Int32) : zVal L xs 98 3 (.inl (i_is 4 5)) := zS_istore d98_3
theorem v98_5 (L : Nat) (xs : Nat → Int32) : zVal L xs 98 5 (.inl (i_c (.int 0) 6)) := zS_iconst d98_5 (by decide)
theorem v98_6 (L : Nat) (xs : Nat → Int32) : zVal L xs 98 6 (.inl (i_is 5 8)) := zS_istore d98_6
theorem v98_8 (L : Nat) (xs : Nat → Int32) : zVal L xs 98 8 (.inl (i_k [false, true, false, false, false, false, true] (i_il 5 10))) := zS_k (zS_iload d98_8)
theorem v98_10 (L : Nat) (xs : Nat → Int32) : zVal L xs 98 10 (.inl (i_il 2 11)) := zS_iload_n d98_10 rfl
theorem v98_11 (L : Nat) (xs : Nat → Int32) : zVal L xs 98 11 (.inl (i_f2 (fun x y => decide (y ≤ x)) 86 14)) := zS_icmp_ge d98_11 (by decide)
theorem v98_14 (L : Nat) (xs : Nat → Int32) : zVal L xs 98 14 (.inl (i_ll 0 15)) := zS_lload_n d98_14 rfl
theorem v98_15 (L : Nat) (xs : Nat → Int32) : zVal L xs 98 15 (.inl (i_il 2 16)) := zS_iload_n d98_15 rfl
theorem v98_16 (L : Nat) (xs : Nat → Int32) : zVal L xs 98 16 (.inl (i_il 5 18)) := zS_iload d98_16
theorem v98_18 (L : Nat) (xs : Nat → Int32) : zVal L xs 98 18 (.inr (.inl (97, 3, 0))) := ⟨by decide +kernel, by decide +kernel, zc_static d98_18 w934 w932 w933 w85 ⟨by decide +kernel, by decide +kernel, by decide +kernel⟩ (by decide) (by decide)⟩
theorem v98_21 (L : Nat) (xs : Nat → Int32) : zVal L xs 98 21 (.inl (i_is 6 23)) := zS_istore d98_21
theorem v98_23 (L : Nat) (xs : Nat → Int32) : zVal L xs 98 23 (.inl (i_il 6 25)) := zS_iload d98_23
theorem v98_25 (L : Nat) (xs : Nat → Int32) : zVal L xs 98 25 (.inr (.inl (95, 1, 0))) := ⟨by decide +kernel, by decide +kernel, zc_static d98_25 w924 w922 w923 w85 ⟨by decide +kernel, by decide +kernel, by decide +kernel⟩ (by decide) (by decide)⟩
theorem v98_28 (L : Nat) (xs : Nat → Int32) : zVal L xs 98 28 (.inl (i_f1 (fun x => decide (x = 0)) 38 31)) := zS_if_eq d98_28 (by decide)
theorem v98_31 (L : Nat) (xs : Nat → Int32) : zVal L xs 98 31 (.inl (i_il 4 33)) := zS_iload d98_31
theorem v98_33 (L : Nat) (xs : Nat → Int32) : zVal L xs 98 33 (.inl (i_c (.int 1) 34)) := zS_iconst d98_33 (by decide)
theorem v98_34 (L : Nat) (xs : Nat → Int32) : zVal L xs 98 34 (.inl (i_bi (fun x y => x + y) 35)) := zS_iadd d98_34
theorem v98_35 (L : Nat) (xs : Nat → Int32) : zVal L xs 98 35 (.inl (i_go 40)) := zS_goto d98_35 (by decide)
theorem v98_38 (L : Nat) (xs : Nat → Int32) : zVal L xs 98 38 (.inl (i_il 4 40)) := zS_iload d98_38
theorem v98_40 (L : Nat) (xs : Nat → Int32) : zVal L xs 98 40 (.inl (i_k [false, true, false, false, true, false, false] (i_is 4 42))) := zS_k (zS_istore d98_40)
theorem v98_42 (L : Nat) (xs : Nat → Int32) : zVal L xs 98 42 (.inl (i_il 3 43)) := zS_iload_n d98_42 rfl
theorem v98_43 (L : Nat) (xs : Nat → Int32) : zVal L xs 98 43 (.inl (i_f1 (fun x => decide (x = 0)) 78 46)) := zS_if_eq d98_43 (by decide)
theorem v98_46 (L : Nat) (xs : Nat → Int32) : zVal L xs 98 46 (.inl (i_il 6 48)) := zS_iload d98_46
theorem v98_48 (L : Nat) (xs : Nat → Int32) : zVal L xs 98 48 (.inr (.inl (95, 1, 0))) := ⟨by decide +kernel, by decide +kernel, zc_static d98_48 w924 w922 w923 w85 ⟨by decide +kernel, by decide +kernel, by decide +kernel⟩ (by decide) (by decide)⟩
theorem v98_51 (L : Nat) (xs : Nat → Int32) : zVal L xs 98 51 (.inl (i_f1 (fun x => decide (¬ x = 0)) 74 54)) := zS_if_ne d98_51 (by decide)
theorem v98_54 (L : Nat) (xs : Nat → Int32) : zVal L xs 98 54 (.inl (i_il 6 56)) := zS_iload d98_54
theorem v98_56 (L : Nat) (xs : Nat → Int32) : zVal L xs 98 56 (.inl (i_c (.int 46) 58)) := zS_bipush d98_56 (by decide)
theorem v98_58 (L : Nat) (xs : Nat → Int32) : zVal L xs 98 58 (.inl (i_f2 (fun x y => decide (¬ x = y)) 78 61)) := zS_icmp_ne d98_58 (by decide)
theorem v98_61 (L : Nat) (xs : Nat → Int32) : zVal L xs 98 61 (.inl (i_il 5 63)) := zS_iload d98_61
theorem v98_63 (L : Nat) (xs : Nat → Int32) : zVal L xs 98 63 (.inl (i_f1 (fun x => decide (x = 0)) 74 66)) := zS_if_eq d98_63 (by decide)
theorem v98_66 (L : Nat) (xs : Nat → Int32) : zVal L xs 98 66 (.inl (i_il 5 68)) := zS_iload d98_66
theorem v98_68 (L : Nat) (xs : Nat → Int32) : zVal L xs 98 68 (.inl (i_il 2 69)) := zS_iload_n d98_68 rfl
theorem v98_69 (L : Nat) (xs : Nat → Int32) : zVal L xs 98 69 (.inl (i_c (.int 1) 70)) := zS_iconst d98_69 (by decide)
theorem v98_70 (L : Nat) (xs : Nat → Int32) : zVal L xs 98 70 (.inl (i_bi (fun x y => x - y) 71)) := zS_isub d98_70
theorem v98_71 (L : Nat) (xs : Nat → Int32) : zVal L xs 98 71 (.inl (i_f2 (fun x y => decide (¬ x = y)) 78 74)) := zS_icmp_ne d98_71 (by decide)
theorem v98_74 (L : Nat) (xs : Nat → Int32) : zVal L xs 98 74 (.inl (i_k [false, true, false, true, false, false, true] (i_c (.int 1) 75))) := zS_k (zS_iconst d98_74 (by decide))
theorem v98_75 (L : Nat) (xs : Nat → Int32) : zVal L xs 98 75 (.inl (i_go 79)) := zS_goto d98_75 (by decide)
theorem v98_78 (L : Nat) (xs : Nat → Int32) : zVal L xs 98 78 (.inl (i_k [false, true, false, true, false, false, true] (i_c (.int 0) 79))) := zS_k (zS_iconst d98_78 (by decide))
theorem v98_79 (L : Nat) (xs : Nat → Int32) : zVal L xs 98 79 (.inl (i_k [false, true, false, true, false, false, true] (i_is 3 80))) := zS_k (zS_istore_n d98_79 rfl)
theorem v98_80 (L : Nat) (xs : Nat → Int32) : zVal L xs 98 80 (.inl (i_in 5 1 83)) := zS_iinc d98_80 (by decide)
theorem v98_83 (L : Nat) (xs : Nat → Int32) : zVal L xs 98 83 (.inl (i_go 8)) := zS_goto d98_83 (by decide)
theorem v98_86 (L : Nat) (xs : Nat → Int32) : zVal L xs 98 86 (.inl (i_il 3 87)) := zS_iload_n d98_86 rfl
theorem v98_87 (L : Nat) (xs : Nat → Int32) : zVal L xs 98 87 (.inl (i_f1 (fun x => decide (x = 0)) 99 90)) := zS_if_eq d98_87 (by decide)
theorem v98_90 (L : Nat) (xs : Nat → Int32) : zVal L xs 98 90 (.inl (i_il 4 92)) := zS_iload d98_90
theorem v98_92 (L : Nat) (xs : Nat → Int32) : zVal L xs 98 92 (.inl (i_f1 (fun x => decide (x ≤ 0)) 99 95)) := zS_if_le d98_92 (by decide)
theorem v98_95 (L : Nat) (xs : Nat → Int32) : zVal L xs 98 95 (.inl (i_c (.int 1) 96)) := zS_iconst d98_95 (by decide)
theorem v98_96 (L : Nat) (xs : Nat → Int32) : zVal L xs 98 96 (.inl (i_go 100)) := zS_goto d98_96 (by decide)
theorem v98_99 (L : Nat) (xs : Nat → Int32) : zVal L xs 98 99 (.inl (i_k [true, true, true, true, true, true, true] (i_c (.int 0) 100))) := zS_k (zS_iconst d98_99 (by decide))
theorem v98_100 (L : Nat) (xs : Nat → Int32) : zVal L xs 98 100 (.inr (.inr 2)) := zr_2 d98_100 rfl
theorem vt98 (L : Nat) (xs : Nat → Int32) : zAll (fun x => zVal L xs 98 x.1 x.2) (tb98) := ⟨v98_0 L xs, v98_1 L xs, v98_2 L xs, v98_3 L xs, v98_5 L xs, v98_6 L xs, v98_8 L xs, v98_10 L xs, v98_11 L xs, v98_14 L xs, v98_15 L xs, v98_16 L xs, v98_18 L xs, v98_21 L xs, v98_23 L xs, v98_25 L xs, v98_28 L xs, v98_31 L xs, v98_33 L xs, v98_34 L xs, v98_35 L xs, v98_38 L xs, v98_40 L xs, v98_42 L xs, v98_43 L xs, v98_46 L xs, v98_48 L xs, v98_51 L xs, v98_54 L xs, v98_56 L xs, v98_58 L xs, v98_61 L xs, v98_63 L xs, v98_66 L xs, v98_68 L xs, v98_69 L xs, v98_70 L xs, v98_71 L xs, v98_74 L xs, v98_75 L xs, v98_78 L xs, v98_79 L xs, v98_80 L xs, v98_83 L xs, v98_86 L xs, v98_87 L xs, v98_90 L xs, v98_92 L xs, v98_95 L xs, v98_96 L xs, v98_99 L xs, v98_100 L xs, trivial⟩
theorem d99_0 : decode (mB 99) 0 = .ok (.aload_n 0, 1) := by decide +kernel
theorem d99_1 : decode (mB 99) 1 = .ok (.getfield 16, 3) := by decide +kernel
theorem d99_4 : decode (mB 99) 4 = .ok (.iload_n 1, 1) := by decide +kernel
theorem d99_5 : decode (mB 99) 5 = .ok (.iaload, 1) := by decide +kernel
theorem d99_6 : decode (mB 99) 6 = .ok (.iload 4, 2) := by decide +kernel
theorem d99_8 : decode (mB 99) 8 = .ok (.if_icmp .ne 7, 3) := by decide +kernel
theorem d99_11 : decode (mB 99) 11 = .ok (.iconst 1, 1) := by decide +kernel
theorem d99_12 : decode (mB 99) 12 = .ok (.goto 4, 3) := by decide +kernel
theorem d99_15 : decode (mB 99) 15 = .ok (.iconst 0, 1) := by decide +kernel
theorem d99_16 : decode (mB 99) 16 = .ok (.istore 5, 2) := by decide +kernel
theorem d99_18 : decode (mB 99) 18 = .ok (.iconst 0, 1) := by decide +kernel
theorem d99_19 : decode (mB 99) 19 = .ok (.istore 6, 2) := by decide +kernel
theorem d99_21 : decode (mB 99) 21 = .ok (.iload 6, 2) := by decide +kernel
theorem d99_23 : decode (mB 99) 23 = .ok (.iload 4, 2) := by decide +kernel
theorem d99_25 : decode (mB 99) 25 = .ok (.if_icmp .ge 44, 3) := by decide +kernel
theorem d99_28 : decode (mB 99) 28 = .ok (.iload 5, 2) := by decide +kernel
theorem d99_30 : decode (mB 99) 30 = .ok (.ifCond .eq 39, 3) := by decide +kernel
theorem d99_33 : decode (mB 99) 33 = .ok (.aload_n 0, 1) := by decide +kernel
theorem d99_34 : decode (mB 99) 34 = .ok (.getfield 19, 3) := by decide +kernel
theorem d99_37 : decode (mB 99) 37 = .ok (.bipush 6, 2) := by decide +kernel
theorem d99_39 : decode (mB 99) 39 = .ok (.iload_n 1, 1) := by decide +kernel
theorem d99_40 : decode (mB 99) 40 = .ok (.imul, 1) := by decide +kernel
theorem d99_41 : decode (mB 99) 41 = .ok (.iload 6, 2) := by decide +kernel
theorem d99_43 : decode (mB 99) 43 = .ok (.iadd, 1) := by decide +kernel
theorem d99_44 : decode (mB 99) 44 = .ok (.iaload, 1) := by decide +kernel
theorem d99_45 : decode (mB 99) 45 = .ok (.lload_n 2, 1) := by decide +kernel
theorem d99_46 : decode (mB 99) 46 = .ok (.iload 4, 2) := by decide +kernel
theorem d99_48 : decode (mB 99) 48 = .ok (.iload 6, 2) := by decide +kernel
theorem d99_50 : decode (mB 99) 50 = .ok (.invokestatic 129, 3) := by decide +kernel
theorem d99_53 : decode (mB 99) 53 = .ok (.if_icmp .ne 7, 3) := by decide +kernel
theorem d99_56 : decode (mB 99) 56 = .ok (.iconst 1, 1) := by decide +kernel
theorem d99_57 : decode (mB 99) 57 = .ok (.goto 4, 3) := by decide +kernel
theorem d99_60 : decode (mB 99) 60 = .ok (.iconst 0, 1) := by decide +kernel
theorem d99_61 : decode (mB 99) 61 = .ok (.istore 5, 2) := by decide +kernel
theorem d99_63 : decode (mB 99) 63 = .ok (.iinc 6 1, 3) := by decide +kernel
theorem d99_66 : decode (mB 99) 66 = .ok (.goto (-45), 3) := by decide +kernel
theorem d99_69 : decode (mB 99) 69 = .ok (.iload 5, 2) := by decide +kernel
theorem d99_71 : decode (mB 99) 71 = .ok (.ireturn, 1) := by decide +kernel
theorem v99_0 (L : Nat) (xs : Nat → Int32) : zVal L xs 99 0 (.inl (i_al 0 1)) := zS_aload_n d99_0 rfl
theorem v99_1 (L : Nat) (xs : Nat → Int32) : zVal L xs 99 1 (.inl (i_gf 10 6 4)) := zS_getf d99_1 (zcl10) (by decide) zi10 w784
theorem v99_4 (L : Nat) (xs : Nat → Int32) : zVal L xs 99 4 (.inl (i_il 1 5)) := zS_iload_n d99_4 rfl
theorem v99_5 (L : Nat) (xs : Nat → Int32) : zVal L xs 99 5 (.inl (i_ga 0 6)) := zS_iald d99_5
theorem v99_6 (L : Nat) (xs : Nat → Int32) : zVal L xs 99 6 (.inl (i_il 4 8)) := zS_iload d99_6
theorem v99_8 (L : Nat) (xs : Nat → Int32) : zVal L xs 99 8 (.inl (i_f2 (fun x y => decide (¬ x = y)) 15 11)) := zS_icmp_ne d99_8 (by decide)
theorem v99_11 (L : Nat) (xs : Nat → Int32) : zVal L xs 99 11 (.inl (i_c (.int 1) 12)) := zS_iconst d99_11 (by decide)
theorem v99_12 (L : Nat) (xs : Nat → Int32) : zVal L xs 99 12 (.inl (i_go 16)) := zS_goto d99_12 (by decide)
theorem v99_15 (L : Nat) (xs : Nat → Int32) : zVal L xs 99 15 (.inl (i_c (.int 0) 16)) := zS_iconst d99_15 (by decide)
theorem v99_16 (L : Nat) (xs : Nat → Int32) : zVal L xs 99 16 (.inl (i_k [false, false, false, true, false, true, true] (i_is 5 18))) := zS_k (zS_istore d99_16)
theorem v99_18 (L : Nat) (xs : Nat → Int32) : zVal L xs 99 18 (.inl (i_c (.int 0) 19)) := zS_iconst d99_18 (by decide)
theorem v99_19 (L : Nat) (xs : Nat → Int32) : zVal L xs 99 19 (.inl (i_is 6 21)) := zS_istore d99_19
theorem v99_21 (L : Nat) (xs : Nat → Int32) : zVal L xs 99 21 (.inl (i_k [false, false, false, true, false, false, false] (i_il 6 23))) := zS_k (zS_iload d99_21)
theorem v99_23 (L : Nat) (xs : Nat → Int32) : zVal L xs 99 23 (.inl (i_il 4 25)) := zS_iload d99_23
theorem v99_25 (L : Nat) (xs : Nat → Int32) : zVal L xs 99 25 (.inl (i_f2 (fun x y => decide (y ≤ x)) 69 28)) := zS_icmp_ge d99_25 (by decide)
theorem v99_28 (L : Nat) (xs : Nat → Int32) : zVal L xs 99 28 (.inl (i_il 5 30)) := zS_iload d99_28
theorem v99_30 (L : Nat) (xs : Nat → Int32) : zVal L xs 99 30 (.inl (i_f1 (fun x => decide (x = 0)) 69 33)) := zS_if_eq d99_30 (by decide)
theorem v99_33 (L : Nat) (xs : Nat → Int32) : zVal L xs 99 33 (.inl (i_al 0 34)) := zS_aload_n d99_33 rfl
theorem v99_34 (L : Nat) (xs : Nat → Int32) : zVal L xs 99 34 (.inl (i_gf 10 7 37)) := zS_getf d99_34 (zcl10) (by decide) zi10 w785
theorem v99_37 (L : Nat) (xs : Nat → Int32) : zVal L xs 99 37 (.inl (i_c (.int 6) 39)) := zS_bipush d99_37 (by decide)
theorem v99_39 (L : Nat) (xs : Nat → Int32) : zVal L xs 99 39 (.inl (i_il 1 40)) := zS_iload_n d99_39 rfl
theorem v99_40 (L : Nat) (xs : Nat → Int32) : zVal L xs 99 40 (.inl (i_bi (fun x y => x * y) 41)) := zS_imul d99_40
theorem v99_41 (L : Nat) (xs : Nat → Int32) : zVal L xs 99 41 (.inl (i_il 6 43)) := zS_iload d99_41
theorem v99_43 (L : Nat) (xs : Nat → Int32) : zVal L xs 99 43 (.inl (i_bi (fun x y => x + y) 44)) := zS_iadd d99_43
theorem v99_44 (L : Nat) (xs : Nat → Int32) : zVal L xs 99 44 (.inl (i_ga 0 45)) := zS_iald d99_44
theorem v99_45 (L : Nat) (xs : Nat → Int32) : zVal L xs 99 45 (.inl (i_ll 2 46)) := zS_lload_n d99_45 rfl
theorem v99_46 (L : Nat) (xs : Nat → Int32) : zVal L xs 99 46 (.inl (i_il 4 48)) := zS_iload d99_46
theorem v99_48 (L : Nat) (xs : Nat → Int32) : zVal L xs 99 48 (.inl (i_il 6 50)) := zS_iload d99_48
theorem v99_50 (L : Nat) (xs : Nat → Int32) : zVal L xs 99 50 (.inr (.inl (97, 3, 0))) := ⟨by decide +kernel, by decide +kernel, zc_static d99_50 w934 w932 w933 w85 ⟨by decide +kernel, by decide +kernel, by decide +kernel⟩ (by decide) (by decide)⟩
theorem v99_53 (L : Nat) (xs : Nat → Int32) : zVal L xs 99 53 (.inl (i_f2 (fun x y => decide (¬ x = y)) 60 56)) := zS_icmp_ne d99_53 (by decide)
theorem v99_56 (L : Nat) (xs : Nat → Int32) : zVal L xs 99 56 (.inl (i_c (.int 1) 57)) := zS_iconst d99_56 (by decide)
theorem v99_57 (L : Nat) (xs : Nat → Int32) : zVal L xs 99 57 (.inl (i_go 61)) := zS_goto d99_57 (by decide)
theorem v99_60 (L : Nat) (xs : Nat → Int32) : zVal L xs 99 60 (.inl (i_c (.int 0) 61)) := zS_iconst d99_60 (by decide)
theorem v99_61 (L : Nat) (xs : Nat → Int32) : zVal L xs 99 61 (.inl (i_k [false, false, false, true, false, true, false] (i_is 5 63))) := zS_k (zS_istore d99_61)
theorem v99_63 (L : Nat) (xs : Nat → Int32) : zVal L xs 99 63 (.inl (i_in 6 1 66)) := zS_iinc d99_63 (by decide)
theorem v99_66 (L : Nat) (xs : Nat → Int32) : zVal L xs 99 66 (.inl (i_go 21)) := zS_goto d99_66 (by decide)
theorem v99_69 (L : Nat) (xs : Nat → Int32) : zVal L xs 99 69 (.inl (i_k [true, true, true, true, true, false, true] (i_il 5 71))) := zS_k (zS_iload d99_69)
theorem v99_71 (L : Nat) (xs : Nat → Int32) : zVal L xs 99 71 (.inr (.inr 2)) := zr_2 d99_71 rfl
theorem vt99 (L : Nat) (xs : Nat → Int32) : zAll (fun x => zVal L xs 99 x.1 x.2) (tb99) := ⟨v99_0 L xs, v99_1 L xs, v99_4 L xs, v99_5 L xs, v99_6 L xs, v99_8 L xs, v99_11 L xs, v99_12 L xs, v99_15 L xs, v99_16 L xs, v99_18 L xs, v99_19 L xs, v99_21 L xs, v99_23 L xs, v99_25 L xs, v99_28 L xs, v99_30 L xs, v99_33 L xs, v99_34 L xs, v99_37 L xs, v99_39 L xs, v99_40 L xs, v99_41 L xs, v99_43 L xs, v99_44 L xs, v99_45 L xs, v99_46 L xs, v99_48 L xs, v99_50 L xs, v99_53 L xs, v99_56 L xs, v99_57 L xs, v99_60 L xs, v99_61 L xs, v99_63 L xs, v99_66 L xs, v99_69 L xs, v99_71 L xs, trivial⟩
theorem d100_0 : decode (mB 100) 0 = .ok (.iload_n 3, 1) := by decide +kernel
theorem d100_1 : decode (mB 100) 1 = .ok (.iconst 1, 1) := by decide +kernel
theorem d100_2 : decode (mB 100) 2 = .ok (.if_icmp .lt 17, 3) := by decide +kernel
theorem d100_5 : decode (mB 100) 5 = .ok (.iload_n 3, 1) := by decide +kernel
theorem d100_6 : decode (mB 100) 6 = .ok (.bipush 6, 2) := by decide +kernel
theorem d100_8 : decode (mB 100) 8 = .ok (.if_icmp .gt 11, 3) := by decide +kernel
theorem d100_11 : decode (mB 100) 11 = .ok (.lload_n 1, 1) := by decide +kernel
theorem d100_12 : decode (mB 100) 12 = .ok (.iload_n 3, 1) := by decide +kernel
theorem d100_13 : decode (mB 100) 13 = .ok (.invokestatic 133, 3) := by decide +kernel
theorem d100_16 : decode (mB 100) 16 = .ok (.ifCond .ne 5, 3) := by decide +kernel
theorem d100_19 : decode (mB 100) 19 = .ok (.iconst (-1), 1) := by decide +kernel
theorem d100_20 : decode (mB 100) 20 = .ok (.ireturn, 1) := by decide +kernel
theorem d100_21 : decode (mB 100) 21 = .ok (.iconst 0, 1) := by decide +kernel
theorem d100_22 : decode (mB 100) 22 = .ok (.istore 6, 2) := by decide +kernel
theorem d100_24 : decode (mB 100) 24 = .ok (.iload 6, 2) := by decide +kernel
theorem d100_26 : decode (mB 100) 26 = .ok (.iload_n 3, 1) := by decide +kernel
theorem d100_27 : decode (mB 100) 27 = .ok (.if_icmp .gt 26, 3) := by decide +kernel
theorem d100_30 : decode (mB 100) 30 = .ok (.lload 4, 2) := by decide +kernel
theorem d100_32 : decode (mB 100) 32 = .ok (.iload_n 3, 1) := by decide +kernel
theorem d100_33 : decode (mB 100) 33 = .ok (.iconst 1, 1) := by decide +kernel
theorem d100_34 : decode (mB 100) 34 = .ok (.iadd, 1) := by decide +kernel
theorem d100_35 : decode (mB 100) 35 = .ok (.iload 6, 2) := by decide +kernel
theorem d100_37 : decode (mB 100) 37 = .ok (.invokestatic 129, 3) := by decide +kernel
theorem d100_40 : decode (mB 100) 40 = .ok (.bipush 9, 2) := by decide +kernel
theorem d100_42 : decode (mB 100) 42 = .ok (.if_icmp .le 5, 3) := by decide +kernel
theorem d100_45 : decode (mB 100) 45 = .ok (.iconst (-1), 1) := by decide +kernel
theorem d100_46 : decode (mB 100) 46 = .ok (.ireturn, 1) := by decide +kernel
theorem d100_47 : decode (mB 100) 47 = .ok (.iinc 6 1, 3) := by decide +kernel
theorem d100_50 : decode (mB 100) 50 = .ok (.goto (-26), 3) := by decide +kernel
theorem d100_53 : decode (mB 100) 53 = .ok (.iconst 0, 1) := by decide +kernel
theorem d100_54 : decode (mB 100) 54 = .ok (.istore 6, 2) := by decide +kernel
theorem d100_56 : decode (mB 100) 56 = .ok (.iload 6, 2) := by decide +kernel
theorem d100_58 : decode (mB 100) 58 = .ok (.aload_n 0, 1) := by decide +kernel
theorem d100_59 : decode (mB 100) 59 = .ok (.getfield 137, 3) := by decide +kernel
theorem d100_62 : decode (mB 100) 62 = .ok (.if_icmp .ge 20, 3) := by decide +kernel
theorem d100_65 : decode (mB 100) 65 = .ok (.aload_n 0, 1) := by decide +kernel
theorem d100_66 : decode (mB 100) 66 = .ok (.iload 6, 2) := by decide +kernel
theorem d100_68 : decode (mB 100) 68 = .ok (.lload_n 1, 1) := by decide +kernel
theorem d100_69 : decode (mB 100) 69 = .ok (.iload_n 3, 1) := by decide +kernel
theorem d100_70 : decode (mB 100) 70 = .ok (.invokevirtual 140, 3) := by decide +kernel
theorem d100_73 : decode (mB 100) 73 = .ok (.ifCond .ne 9, 3) := by decide +kernel
theorem d100_76 : decode (mB 100) 76 = .ok (.iinc 6 1, 3) := by decide +kernel
theorem d100_79 : decode (mB 100) 79 = .ok (.goto (-23), 3) := by decide +kernel
theorem d100_82 : decode (mB 100) 82 = .ok (.iload 6, 2) := by decide +kernel
theorem d100_84 : decode (mB 100) 84 = .ok (.bipush 20, 2) := by decide +kernel
theorem d100_86 : decode (mB 100) 86 = .ok (.if_icmp .ne 6, 3) := by decide +kernel
theorem d100_89 : decode (mB 100) 89 = .ok (.bipush (-2), 2) := by decide +kernel
theorem d100_91 : decode (mB 100) 91 = .ok (.ireturn, 1) := by decide +kernel
theorem d100_92 : decode (mB 100) 92 = .ok (.aload_n 0, 1) := by decide +kernel
theorem d100_93 : decode (mB 100) 93 = .ok (.iload 6, 2) := by decide +kernel
theorem d100_95 : decode (mB 100) 95 = .ok (.aload_n 0, 1) := by decide +kernel
theorem d100_96 : decode (mB 100) 96 = .ok (.getfield 137, 3) := by decide +kernel
theorem d100_99 : decode (mB 100) 99 = .ok (.if_icmp .ne 12, 3) := by decide +kernel
theorem d100_102 : decode (mB 100) 102 = .ok (.aload_n 0, 1) := by decide +kernel
theorem d100_103 : decode (mB 100) 103 = .ok (.getfield 137, 3) := by decide +kernel
theorem d100_106 : decode (mB 100) 106 = .ok (.iconst 1, 1) := by decide +kernel
theorem d100_107 : decode (mB 100) 107 = .ok (.iadd, 1) := by decide +kernel
theorem d100_108 : decode (mB 100) 108 = .ok (.goto 7, 3) := by decide +kernel
theorem d100_111 : decode (mB 100) 111 = .ok (.aload_n 0, 1) := by decide +kernel
theorem d100_112 : decode (mB 100) 112 = .ok (.getfield 137, 3) := by decide +kernel
theorem d100_115 : decode (mB 100) 115 = .ok (.putfield 137, 3) := by decide +kernel
theorem d100_118 : decode (mB 100) 118 = .ok (.aload_n 0, 1) := by decide +kernel
theorem d100_119 : decode (mB 100) 119 = .ok (.getfield 16, 3) := by decide +kernel
theorem d100_122 : decode (mB 100) 122 = .ok (.iload 6, 2) := by decide +kernel
theorem d100_124 : decode (mB 100) 124 = .ok (.iload_n 3, 1) := by decide +kernel
theorem d100_125 : decode (mB 100) 125 = .ok (.iastore, 1) := by decide +kernel
theorem d100_126 : decode (mB 100) 126 = .ok (.iconst 0, 1) := by decide +kernel
theorem d100_127 : decode (mB 100) 127 = .ok (.istore 7, 2) := by decide +kernel
theorem d100_129 : decode (mB 100) 129 = .ok (.iload 7, 2) := by decide +kernel
theorem d100_131 : decode (mB 100) 131 = .ok (.iload_n 3, 1) := by decide +kernel
theorem d100_132 : decode (mB 100) 132 = .ok (.if_icmp .gt 72, 3) := by decide +kernel
theorem d100_135 : decode (mB 100) 135 = .ok (.aload_n 0, 1) := by decide +kernel
theorem d100_136 : decode (mB 100) 136 = .ok (.getfield 19, 3) := by decide +kernel
theorem d100_139 : decode (mB 100) 139 = .ok (.bipush 6, 2) := by decide +kernel
theorem d100_141 : decode (mB 100) 141 = .ok (.iload 6, 2) := by decide +kernel
theorem d100_143 : decode (mB 100) 143 = .ok (.imul, 1) := by decide +kernel
theorem d100_144 : decode (mB 100) 144 = .ok (.iload 7, 2) := by decide +kernel
theorem d100_146 : decode (mB 100) 146 = .ok (.iload_n 3, 1) := by decide +kernel
theorem d100_147 : decode (mB 100) 147 = .ok (.if_icmp .ge 8, 3) := by decide +kernel
theorem d100_150 : decode (mB 100) 150 = .ok (.iload 7, 2) := by decide +kernel
theorem d100_152 : decode (mB 100) 152 = .ok (.goto 4, 3) := by decide +kernel
theorem d100_155 : decode (mB 100) 155 = .ok (.iconst 0, 1) := by decide +kernel
theorem d100_156 : decode (mB 100) 156 = .ok (.iadd, 1) := by decide +kernel
theorem d100_157 : decode (mB 100) 157 = .ok (.lload_n 1, 1) := by decide +kernel
theorem d100_158 : decode (mB 100) 158 = .ok (.iload_n 3, 1) := by decide +kernel
theorem d100_159 : decode (mB 100) 159 = .ok (.iload 7, 2) := by decide +kernel
theorem d100_161 : decode (mB 100) 161 = .ok (.iload_n 3, 1) := by decide +kernel
theorem d100_162 : decode (mB 100) 162 = .ok (.if_icmp .ge 8, 3) := by decide +kernel
theorem d100_165 : decode (mB 100) 165 = .ok (.iload 7, 2) := by decide +kernel
theorem d100_167 : decode (mB 100) 167 = .ok (.goto 4, 3) := by decide +kernel
theorem d100_170 : decode (mB 100) 170 = .ok (.iconst 0, 1) := by decide +kernel
theorem d100_171 : decode (mB 100) 171 = .ok (.invokestatic 129, 3) := by decide +kernel
theorem d100_174 : decode (mB 100) 174 = .ok (.iastore, 1) := by decide +kernel
theorem d100_175 : decode (mB 100) 175 = .ok (.aload_n 0, 1) := by decide +kernel
theorem d100_176 : decode (mB 100) 176 = .ok (.getfield 22, 3) := by decide +kernel
theorem d100_179 : decode (mB 100) 179 = .ok (.bipush 7, 2) := by decide +kernel
theorem d100_181 : decode (mB 100) 181 = .ok (.iload 6, 2) := by decide +kernel
theorem d100_183 : decode (mB 100) 183 = .ok (.imul, 1) := by decide +kernel
theorem d100_184 : decode (mB 100) 184 = .ok (.iload 7, 2) := by decide +kernel
theorem d100_186 : decode (mB 100) 186 = .ok (.iadd, 1) := by decide +kernel
theorem d100_187 : decode (mB 100) 187 = .ok (.lload 4, 2) := by decide +kernel
theorem d100_189 : decode (mB 100) 189 = .ok (.iload_n 3, 1) := by decide +kernel
theorem d100_190 : decode (mB 100) 190 = .ok (.iconst 1, 1) := by decide +kernel
theorem d100_191 : decode (mB 100) 191 = .ok (.iadd, 1) := by decide +kernel
theorem d100_192 : decode (mB 100) 192 = .ok (.iload 7, 2) := by decide +kernel
theorem d100_194 : decode (mB 100) 194 = .ok (.invokestatic 129, 3) := by decide +kernel
theorem d100_197 : decode (mB 100) 197 = .ok (.iastore, 1) := by decide +kernel
theorem d100_198 : decode (mB 100) 198 = .ok (.iinc 7 1, 3) := by decide +kernel
theorem d100_201 : decode (mB 100) 201 = .ok (.goto (-72), 3) := by decide +kernel
theorem d100_204 : decode (mB 100) 204 = .ok (.aload_n 0, 1) := by decide +kernel
theorem d100_205 : decode (mB 100) 205 = .ok (.getfield 137, 3) := by decide +kernel
theorem d100_208 : decode (mB 100) 208 = .ok (.ireturn, 1) := by decide +kernel
theorem v100_0 (L : Nat) (xs : Nat → Int32) : zVal L xs 100 0 (.inl (i_il 3 1)) := zS_iload_n d100_0 rfl
theorem v100_1 (L : Nat) (xs : Nat → Int32) : zVal L xs 100 1 (.inl (i_c (.int 1) 2)) := zS_iconst d100_1 (by decide)
theorem v100_2 (L : Nat) (xs : Nat → Int32) : zVal L xs 100 2 (.inl (i_f2 (fun x y => decide (x < y)) 19 5)) := zS_icmp_lt d100_2 (by decide)
theorem v100_5 (L : Nat) (xs : Nat → Int32) : zVal L xs 100 5 (.inl (i_il 3 6)) := zS_iload_n d100_5 rfl
theorem v100_6 (L : Nat) (xs : Nat → Int32) : zVal L xs 100 6 (.inl (i_c (.int 6) 8)) := zS_bipush d100_6 (by decide)
theorem v100_8 (L : Nat) (xs : Nat → Int32) : zVal L xs 100 8 (.inl (i_f2 (fun x y => decide (y < x)) 19 11)) := zS_icmp_gt d100_8 (by decide)
theorem v100_11 (L : Nat) (xs : Nat → Int32) : zVal L xs 100 11 (.inl (i_ll 1 12)) := zS_lload_n d100_11 rfl
theorem v100_12 (L : Nat) (xs : Nat → Int32) : zVal L xs 100 12 (.inl (i_il 3 13)) := zS_iload_n d100_12 rfl
theorem v100_13 (L : Nat) (xs : Nat → Int32) : zVal L xs 100 13 (.inr (.inl (98, 2, 0))) := ⟨by decide +kernel, by decide +kernel, zc_static d100_13 w931 w929 w930 w85 ⟨by decide +kernel, by decide +kernel, by decide +kernel⟩ (by decide) (by decide)⟩
theorem v100_16 (L : Nat) (xs : Nat → Int32) : zVal L xs 100 16 (.inl (i_f1 (fun x => decide (¬ x = 0)) 21 19)) := zS_if_ne d100_16 (by decide)
theorem v100_19 (L : Nat) (xs : Nat → Int32) : zVal L xs 100 19 (.inl (i_k [true, true, true, true, true, true, true, true] (i_c (.int (-1)) 20))) := zS_k (zS_iconst d100_19 (by decide))
theorem v100_20 (L : Nat) (xs : Nat → Int32) : zVal L xs 100 20 (.inr (.inr 1)) := zr_1 d100_20 rfl
theorem v100_21 (L : Nat) (xs : Nat → Int32) : zVal L xs 100 21 (.inl (i_c (.int 0) 22)) := zS_iconst d100_21 (by decide)
theorem v100_22 (L : Nat) (xs : Nat → Int32) : zVal L xs 100 22 (.inl (i_is 6 24)) := zS_istore d100_22
theorem v100_24 (L : Nat) (xs : Nat → Int32) : zVal L xs 100 24 (.inl (i_k [false, false, true, false, false, true, false, true] (i_il 6 26))) := zS_k (zS_iload d100_24)
theorem v100_26 (L : Nat) (xs : Nat → Int32) : zVal L xs 100 26 (.inl (i_il 3 27)) := zS_iload_n d100_26 rfl
theorem v100_27 (L : Nat) (xs : Nat → Int32) : zVal L xs 100 27 (.inl (i_f2 (fun x y => decide (y < x)) 53 30)) := zS_icmp_gt d100_27 (by decide)
theorem v100_30 (L : Nat) (xs : Nat → Int32) : zVal L xs 100 30 (.inl (i_ll 4 32)) := zS_lload d100_30
theorem v100_32 (L : Nat) (xs : Nat → Int32) : zVal L xs 100 32 (.inl (i_il 3 33)) := zS_iload_n d100_32 rfl
theorem v100_33 (L : Nat) (xs : Nat → Int32) : zVal L xs 100 33 (.inl (i_c (.int 1) 34)) := zS_iconst d100_33 (by decide)
theorem v100_34 (L : Nat) (xs : Nat → Int32) : zVal L xs 100 34 (.inl (i_bi (fun x y => x + y) 35)) := zS_iadd d100_34
theorem v100_35 (L : Nat) (xs : Nat → Int32) : zVal L xs 100 35 (.inl (i_il 6 37)) := zS_iload d100_35
theorem v100_37 (L : Nat) (xs : Nat → Int32) : zVal L xs 100 37 (.inr (.inl (97, 3, 0))) := ⟨by decide +kernel, by decide +kernel, zc_static d100_37 w934 w932 w933 w85 ⟨by decide +kernel, by decide +kernel, by decide +kernel⟩ (by decide) (by decide)⟩
theorem v100_40 (L : Nat) (xs : Nat → Int32) : zVal L xs 100 40 (.inl (i_c (.int 9) 42)) := zS_bipush d100_40 (by decide)
theorem v100_42 (L : Nat) (xs : Nat → Int32) : zVal L xs 100 42 (.inl (i_f2 (fun x y => decide (x ≤ y)) 47 45)) := zS_icmp_le d100_42 (by decide)
theorem v100_45 (L : Nat) (xs : Nat → Int32) : zVal L xs 100 45 (.inl (i_c (.int (-1)) 46)) := zS_iconst d100_45 (by decide)
theorem v100_46 (L : Nat) (xs : Nat → Int32) : zVal L xs 100 46 (.inr (.inr 1)) := zr_1 d100_46 rfl
theorem v100_47 (L : Nat) (xs : Nat → Int32) : zVal L xs 100 47 (.inl (i_in 6 1 50)) := zS_iinc d100_47 (by decide)
theorem v100_50 (L : Nat) (xs : Nat → Int32) : zVal L xs 100 50 (.inl (i_go 24)) := zS_goto d100_50 (by decide)
theorem v100_53 (L : Nat) (xs : Nat → Int32) : zVal L xs 100 53 (.inl (i_c (.int 0) 54)) := zS_iconst d100_53 (by decide)
theorem v100_54 (L : Nat) (xs : Nat → Int32) : zVal L xs 100 54 (.inl (i_is 6 56)) := zS_istore d100_54
theorem v100_56 (L : Nat) (xs : Nat → Int32) : zVal L xs 100 56 (.inl (i_k [false, false, true, false, false, true, false, true] (i_il 6 58))) := zS_k (zS_iload d100_56)
theorem v100_58 (L : Nat) (xs : Nat → Int32) : zVal L xs 100 58 (.inl (i_al 0 59)) := zS_aload_n d100_58 rfl
theorem v100_59 (L : Nat) (xs : Nat → Int32) : zVal L xs 100 59 (.inl (i_gf 10 5 62)) := zS_getf d100_59 (zcl10) (by decide) zi10 w783
theorem v100_62 (L : Nat) (xs : Nat → Int32) : zVal L xs 100 62 (.inl (i_f2 (fun x y => decide (y ≤ x)) 82 65)) := zS_icmp_ge d100_62 (by decide)
theorem v100_65 (L : Nat) (xs : Nat → Int32) : zVal L xs 100 65 (.inl (i_al 0 66)) := zS_aload_n d100_65 rfl
theorem v100_66 (L : Nat) (xs : Nat → Int32) : zVal L xs 100 66 (.inl (i_il 6 68)) := zS_iload d100_66
theorem v100_68 (L : Nat) (xs : Nat → Int32) : zVal L xs 100 68 (.inl (i_ll 1 69)) := zS_lload_n d100_68 rfl
theorem v100_69 (L : Nat) (xs : Nat → Int32) : zVal L xs 100 69 (.inl (i_il 3 70)) := zS_iload_n d100_69 rfl
theorem v100_70 (L : Nat) (xs : Nat → Int32) : zVal L xs 100 70 (.inr (.inl (99, 4, 11))) := ⟨by decide +kernel, by decide +kernel, zc_virt d100_70 zcl10 w939 w936 w938 w35 w85 ⟨by decide +kernel, by decide +kernel, by decide +kernel⟩ (by decide) (by decide)⟩
theorem v100_73 (L : Nat) (xs : Nat → Int32) : zVal L xs 100 73 (.inl (i_f1 (fun x => decide (¬ x = 0)) 82 76)) := zS_if_ne d100_73 (by decide)
theorem v100_76 (L : Nat) (xs : Nat → Int32) : zVal L xs 100 76 (.inl (i_in 6 1 79)) := zS_iinc d100_76 (by decide)
theorem v100_79 (L : Nat) (xs : Nat → Int32) : zVal L xs 100 79 (.inl (i_go 56)) := zS_goto d100_79 (by decide)
theorem v100_82 (L : Nat) (xs : Nat → Int32) : zVal L xs 100 82 (.inl (i_k [false, false, true, false, false, true, false, true] (i_il 6 84))) := zS_k (zS_iload d100_82)
theorem v100_84 (L : Nat) (xs : Nat → Int32) : zVal L xs 100 84 (.inl (i_c (.int 20) 86)) := zS_bipush d100_84 (by decide)
theorem v100_86 (L : Nat) (xs : Nat → Int32) : zVal L xs 100 86 (.inl (i_f2 (fun x y => decide (¬ x = y)) 92 89)) := zS_icmp_ne d100_86 (by decide)
theorem v100_89 (L : Nat) (xs : Nat → Int32) : zVal L xs 100 89 (.inl (i_c (.int (-2)) 91)) := zS_bipush d100_89 (by decide)
theorem v100_91 (L : Nat) (xs : Nat → Int32) : zVal L xs 100 91 (.inr (.inr 1)) := zr_1 d100_91 rfl
theorem v100_92 (L : Nat) (xs : Nat → Int32) : zVal L xs 100 92 (.inl (i_al 0 93)) := zS_aload_n d100_92 rfl
theorem v100_93 (L : Nat) (xs : Nat → Int32) : zVal L xs 100 93 (.inl (i_il 6 95)) := zS_iload d100_93
theorem v100_95 (L : Nat) (xs : Nat → Int32) : zVal L xs 100 95 (.inl (i_al 0 96)) := zS_aload_n d100_95 rfl
theorem v100_96 (L : Nat) (xs : Nat → Int32) : zVal L xs 100 96 (.inl (i_gf 10 5 99)) := zS_getf d100_96 (zcl10) (by decide) zi10 w783
theorem v100_99 (L : Nat) (xs : Nat → Int32) : zVal L xs 100 99 (.inl (i_f2 (fun x y => decide (¬ x = y)) 111 102)) := zS_icmp_ne d100_99 (by decide)
theorem v100_102 (L : Nat) (xs : Nat → Int32) : zVal L xs 100 102 (.inl (i_al 0 103)) := zS_aload_n d100_102 rfl
theorem v100_103 (L : Nat) (xs : Nat → Int32) : zVal L xs 100 103 (.inl (i_gf 10 5 106)) := zS_getf d100_103 (zcl10) (by decide) zi10 w783
theorem v100_106 (L : Nat) (xs : Nat → Int32) : zVal L xs 100 106 (.inl (i_c (.int 1) 107)) := zS_iconst d100_106 (by decide)
theorem v100_107 (L : Nat) (xs : Nat → Int32) : zVal L xs 100 107 (.inl (i_bi (fun x y => x + y) 108)) := zS_iadd d100_107
theorem v100_108 (L : Nat) (xs : Nat → Int32) : zVal L xs 100 108 (.inl (i_go 115)) := zS_goto d100_108 (by decide)
theorem v100_111 (L : Nat) (xs : Nat → Int32) : zVal L xs 100 111 (.inl (i_al 0 112)) := zS_aload_n d100_111 rfl
theorem v100_112 (L : Nat) (xs : Nat → Int32) : zVal L xs 100 112 (.inl (i_gf 10 5 115)) := zS_getf d100_112 (zcl10) (by decide) zi10 w783
theorem v100_115 (L : Nat) (xs : Nat → Int32) : zVal L xs 100 115 (.inl (i_k [false, false, true, false, false, true, false, true] (i_pf 10 5 okI 118))) := zS_k (zS_putf (ty := .int) d100_115 (zcl10) (by decide) zi10 w783 zy10 zn10 (by decide +kernel) (by decide +kernel) okI_ok)
theorem v100_118 (L : Nat) (xs : Nat → Int32) : zVal L xs 100 118 (.inl (i_al 0 119)) := zS_aload_n d100_118 rfl
theorem v100_119 (L : Nat) (xs : Nat → Int32) : zVal L xs 100 119 (.inl (i_gf 10 6 122)) := zS_getf d100_119 (zcl10) (by decide) zi10 w784
theorem v100_122 (L : Nat) (xs : Nat → Int32) : zVal L xs 100 122 (.inl (i_il 6 124)) := zS_iload d100_122
theorem v100_124 (L : Nat) (xs : Nat → Int32) : zVal L xs 100 124 (.inl (i_il 3 125)) := zS_iload_n d100_124 rfl
theorem v100_125 (L : Nat) (xs : Nat → Int32) : zVal L xs 100 125 (.inl (i_pa 0 (fun x => x) 126)) := zS_iast d100_125
theorem v100_126 (L : Nat) (xs : Nat → Int32) : zVal L xs 100 126 (.inl (i_c (.int 0) 127)) := zS_iconst d100_126 (by decide)
theorem v100_127 (L : Nat) (xs : Nat → Int32) : zVal L xs 100 127 (.inl (i_is 7 129)) := zS_istore d100_127
theorem v100_129 (L : Nat) (xs : Nat → Int32) : zVal L xs 100 129 (.inl (i_k [false, false, true, false, false, true, false, false] (i_il 7 131))) := zS_k (zS_iload d100_129)
theorem v100_131 (L : Nat) (xs : Nat → Int32) : zVal L xs 100 131 (.inl (i_il 3 132)) := zS_iload_n d100_131 rfl
theorem v100_132 (L : Nat) (xs : Nat → Int32) : zVal L xs 100 132 (.inl (i_f2 (fun x y => decide (y < x)) 204 135)) := zS_icmp_gt d100_132 (by decide)
theorem v100_135 (L : Nat) (xs : Nat → Int32) : zVal L xs 100 135 (.inl (i_al 0 136)) := zS_aload_n d100_135 rfl
theorem v100_136 (L : Nat) (xs : Nat → Int32) : zVal L xs 100 136 (.inl (i_gf 10 7 139)) := zS_getf d100_136 (zcl10) (by decide) zi10 w785
theorem v100_139 (L : Nat) (xs : Nat → Int32) : zVal L xs 100 139 (.inl (i_c (.int 6) 141)) := zS_bipush d100_139 (by decide)
theorem v100_141 (L : Nat) (xs : Nat → Int32) : zVal L xs 100 141 (.inl (i_il 6 143)) := zS_iload d100_141
theorem v100_143 (L : Nat) (xs : Nat → Int32) : zVal L xs 100 143 (.inl (i_bi (fun x y => x * y) 144)) := zS_imul d100_143
theorem v100_144 (L : Nat) (xs : Nat → Int32) : zVal L xs 100 144 (.inl (i_il 7 146)) := zS_iload d100_144
theorem v100_146 (L : Nat) (xs : Nat → Int32) : zVal L xs 100 146 (.inl (i_il 3 147)) := zS_iload_n d100_146 rfl
theorem v100_147 (L : Nat) (xs : Nat → Int32) : zVal L xs 100 147 (.inl (i_f2 (fun x y => decide (y ≤ x)) 155 150)) := zS_icmp_ge d100_147 (by decide)
theorem v100_150 (L : Nat) (xs : Nat → Int32) : zVal L xs 100 150 (.inl (i_il 7 152)) := zS_iload d100_150
theorem v100_152 (L : Nat) (xs : Nat → Int32) : zVal L xs 100 152 (.inl (i_go 156)) := zS_goto d100_152 (by decide)
theorem v100_155 (L : Nat) (xs : Nat → Int32) : zVal L xs 100 155 (.inl (i_c (.int 0) 156)) := zS_iconst d100_155 (by decide)
theorem v100_156 (L : Nat) (xs : Nat → Int32) : zVal L xs 100 156 (.inl (i_k [false, false, true, false, false, true, false, false] (i_bi (fun x y => x + y) 157))) := zS_k (zS_iadd d100_156)
theorem v100_157 (L : Nat) (xs : Nat → Int32) : zVal L xs 100 157 (.inl (i_ll 1 158)) := zS_lload_n d100_157 rfl
theorem v100_158 (L : Nat) (xs : Nat → Int32) : zVal L xs 100 158 (.inl (i_il 3 159)) := zS_iload_n d100_158 rfl
theorem v100_159 (L : Nat) (xs : Nat → Int32) : zVal L xs 100 159 (.inl (i_il 7 161)) := zS_iload d100_159
theorem v100_161 (L : Nat) (xs : Nat → Int32) : zVal L xs 100 161 (.inl (i_il 3 162)) := zS_iload_n d100_161 rfl
theorem v100_162 (L : Nat) (xs : Nat → Int32) : zVal L xs 100 162 (.inl (i_f2 (fun x y => decide (y ≤ x)) 170 165)) := zS_icmp_ge d100_162 (by decide)
theorem v100_165 (L : Nat) (xs : Nat → Int32) : zVal L xs 100 165 (.inl (i_il 7 167)) := zS_iload d100_165
theorem v100_167 (L : Nat) (xs : Nat → Int32) : zVal L xs 100 167 (.inl (i_go 171)) := zS_goto d100_167 (by decide)
theorem v100_170 (L : Nat) (xs : Nat → Int32) : zVal L xs 100 170 (.inl (i_c (.int 0) 171)) := zS_iconst d100_170 (by decide)
theorem v100_171 (L : Nat) (xs : Nat → Int32) : zVal L xs 100 171 (.inr (.inl (97, 3, 0))) := ⟨by decide +kernel, by decide +kernel, zc_static d100_171 w934 w932 w933 w85 ⟨by decide +kernel, by decide +kernel, by decide +kernel⟩ (by decide) (by decide)⟩
theorem v100_174 (L : Nat) (xs : Nat → Int32) : zVal L xs 100 174 (.inl (i_pa 0 (fun x => x) 175)) := zS_iast d100_174
theorem v100_175 (L : Nat) (xs : Nat → Int32) : zVal L xs 100 175 (.inl (i_al 0 176)) := zS_aload_n d100_175 rfl
theorem v100_176 (L : Nat) (xs : Nat → Int32) : zVal L xs 100 176 (.inl (i_gf 10 8 179)) := zS_getf d100_176 (zcl10) (by decide) zi10 w786
theorem v100_179 (L : Nat) (xs : Nat → Int32) : zVal L xs 100 179 (.inl (i_c (.int 7) 181)) := zS_bipush d100_179 (by decide)
theorem v100_181 (L : Nat) (xs : Nat → Int32) : zVal L xs 100 181 (.inl (i_il 6 183)) := zS_iload d100_181
theorem v100_183 (L : Nat) (xs : Nat → Int32) : zVal L xs 100 183 (.inl (i_bi (fun x y => x * y) 184)) := zS_imul d100_183
theorem v100_184 (L : Nat) (xs : Nat → Int32) : zVal L xs 100 184 (.inl (i_il 7 186)) := zS_iload d100_184
theorem v100_186 (L : Nat) (xs : Nat → Int32) : zVal L xs 100 186 (.inl (i_bi (fun x y => x + y) 187)) := zS_iadd d100_186
theorem v100_187 (L : Nat) (xs : Nat → Int32) : zVal L xs 100 187 (.inl (i_ll 4 189)) := zS_lload d100_187
theorem v100_189 (L : Nat) (xs : Nat → Int32) : zVal L xs 100 189 (.inl (i_il 3 190)) := zS_iload_n d100_189 rfl
theorem v100_190 (L : Nat) (xs : Nat → Int32) : zVal L xs 100 190 (.inl (i_c (.int 1) 191)) := zS_iconst d100_190 (by decide)
theorem v100_191 (L : Nat) (xs : Nat → Int32) : zVal L xs 100 191 (.inl (i_bi (fun x y => x + y) 192)) := zS_iadd d100_191
theorem v100_192 (L : Nat) (xs : Nat → Int32) : zVal L xs 100 192 (.inl (i_il 7 194)) := zS_iload d100_192
theorem v100_194 (L : Nat) (xs : Nat → Int32) : zVal L xs 100 194 (.inr (.inl (97, 3, 0))) := ⟨by decide +kernel, by decide +kernel, zc_static d100_194 w934 w932 w933 w85 ⟨by decide +kernel, by decide +kernel, by decide +kernel⟩ (by decide) (by decide)⟩
theorem v100_197 (L : Nat) (xs : Nat → Int32) : zVal L xs 100 197 (.inl (i_pa 0 (fun x => x) 198)) := zS_iast d100_197
theorem v100_198 (L : Nat) (xs : Nat → Int32) : zVal L xs 100 198 (.inl (i_in 7 1 201)) := zS_iinc d100_198 (by decide)
theorem v100_201 (L : Nat) (xs : Nat → Int32) : zVal L xs 100 201 (.inl (i_go 129)) := zS_goto d100_201 (by decide)
theorem v100_204 (L : Nat) (xs : Nat → Int32) : zVal L xs 100 204 (.inl (i_al 0 205)) := zS_aload_n d100_204 rfl
theorem v100_205 (L : Nat) (xs : Nat → Int32) : zVal L xs 100 205 (.inl (i_gf 10 5 208)) := zS_getf d100_205 (zcl10) (by decide) zi10 w783
theorem v100_208 (L : Nat) (xs : Nat → Int32) : zVal L xs 100 208 (.inr (.inr 1)) := zr_1 d100_208 rfl
theorem vt100 (L : Nat) (xs : Nat → Int32) : zAll (fun x => zVal L xs 100 x.1 x.2) (tb100) := ⟨v100_0 L xs, v100_1 L xs, v100_2 L xs, v100_5 L xs, v100_6 L xs, v100_8 L xs, v100_11 L xs, v100_12 L xs, v100_13 L xs, v100_16 L xs, v100_19 L xs, v100_20 L xs, v100_21 L xs, v100_22 L xs, v100_24 L xs, v100_26 L xs, v100_27 L xs, v100_30 L xs, v100_32 L xs, v100_33 L xs, v100_34 L xs, v100_35 L xs, v100_37 L xs, v100_40 L xs, v100_42 L xs, v100_45 L xs, v100_46 L xs, v100_47 L xs, v100_50 L xs, v100_53 L xs, v100_54 L xs, v100_56 L xs, v100_58 L xs, v100_59 L xs, v100_62 L xs, v100_65 L xs, v100_66 L xs, v100_68 L xs, v100_69 L xs, v100_70 L xs, v100_73 L xs, v100_76 L xs, v100_79 L xs, v100_82 L xs, v100_84 L xs, v100_86 L xs, v100_89 L xs, v100_91 L xs, v100_92 L xs, v100_93 L xs, v100_95 L xs, v100_96 L xs, v100_99 L xs, v100_102 L xs, v100_103 L xs, v100_106 L xs, v100_107 L xs, v100_108 L xs, v100_111 L xs, v100_112 L xs, v100_115 L xs, v100_118 L xs, v100_119 L xs, v100_122 L xs, v100_124 L xs, v100_125 L xs, v100_126 L xs, v100_127 L xs, v100_129 L xs, v100_131 L xs, v100_132 L xs, v100_135 L xs, v100_136 L xs, v100_139 L xs, v100_141 L xs, v100_143 L xs, v100_144 L xs, v100_146 L xs, v100_147 L xs, v100_150 L xs, v100_152 L xs, v100_155 L xs, v100_156 L xs, v100_157 L xs, v100_158 L xs, v100_159 L xs, v100_161 L xs, v100_162 L xs, v100_165 L xs, v100_167 L xs, v100_170 L xs, v100_171 L xs, v100_174 L xs, v100_175 L xs, v100_176 L xs, v100_179 L xs, v100_181 L xs, v100_183 L xs, v100_184 L xs, v100_186 L xs, v100_187 L xs, v100_189 L xs, v100_190 L xs, v100_191 L xs, v100_192 L xs, v100_194 L xs, v100_197 L xs, v100_198 L xs, v100_201 L xs, v100_204 L xs, v100_205 L xs, v100_208 L xs, trivial⟩
theorem d101_0 : decode (mB 101) 0 = .ok (.iload_n 2, 1) := by decide +kernel
theorem d101_1 : decode (mB 101) 1 = .ok (.aload_n 0, 1) := by decide +kernel
theorem d101_2 : decode (mB 101) 2 = .ok (.getfield 16, 3) := by decide +kernel
theorem d101_5 : decode (mB 101) 5 = .ok (.iload_n 1, 1) := by decide +kernel
theorem d101_6 : decode (mB 101) 6 = .ok (.iaload, 1) := by decide +kernel
theorem d101_7 : decode (mB 101) 7 = .ok (.iadd, 1) := by decide +kernel
theorem d101_8 : decode (mB 101) 8 = .ok (.iload_n 3, 1) := by decide +kernel
theorem d101_9 : decode (mB 101) 9 = .ok (.iconst 2, 1) := by decide +kernel
theorem d101_10 : decode (mB 101) 10 = .ok (.iadd, 1) := by decide +kernel
theorem d101_11 : decode (mB 101) 11 = .ok (.if_icmp .gt 7, 3) := by decide +kernel
theorem d101_14 : decode (mB 101) 14 = .ok (.iconst 1, 1) := by decide +kernel
theorem d101_15 : decode (mB 101) 15 = .ok (.goto 4, 3) := by decide +kernel
theorem d101_18 : decode (mB 101) 18 = .ok (.iconst 0, 1) := by decide +kernel
theorem d101_19 : decode (mB 101) 19 = .ok (.istore 4, 2) := by decide +kernel
theorem d101_21 : decode (mB 101) 21 = .ok (.iconst 0, 1) := by decide +kernel
theorem d101_22 : decode (mB 101) 22 = .ok (.istore 5, 2) := by decide +kernel
theorem d101_24 : decode (mB 101) 24 = .ok (.iload 5, 2) := by decide +kernel
theorem d101_26 : decode (mB 101) 26 = .ok (.aload_n 0, 1) := by decide +kernel
theorem d101_27 : decode (mB 101) 27 = .ok (.getfield 16, 3) := by decide +kernel
theorem d101_30 : decode (mB 101) 30 = .ok (.iload_n 1, 1) := by decide +kernel
theorem d101_31 : decode (mB 101) 31 = .ok (.iaload, 1) := by decide +kernel
theorem d101_32 : decode (mB 101) 32 = .ok (.if_icmp .ge 45, 3) := by decide +kernel
theorem d101_35 : decode (mB 101) 35 = .ok (.iload 4, 2) := by decide +kernel
theorem d101_37 : decode (mB 101) 37 = .ok (.ifCond .eq 40, 3) := by decide +kernel
theorem d101_40 : decode (mB 101) 40 = .ok (.aload_n 0, 1) := by decide +kernel
theorem d101_41 : decode (mB 101) 41 = .ok (.getfield 25, 3) := by decide +kernel
theorem d101_44 : decode (mB 101) 44 = .ok (.iload_n 2, 1) := by decide +kernel
theorem d101_45 : decode (mB 101) 45 = .ok (.iload 5, 2) := by decide +kernel
theorem d101_47 : decode (mB 101) 47 = .ok (.iadd, 1) := by decide +kernel
theorem d101_48 : decode (mB 101) 48 = .ok (.iaload, 1) := by decide +kernel
theorem d101_49 : decode (mB 101) 49 = .ok (.aload_n 0, 1) := by decide +kernel
theorem d101_50 : decode (mB 101) 50 = .ok (.getfield 19, 3) := by decide +kernel
theorem d101_53 : decode (mB 101) 53 = .ok (.bipush 6, 2) := by decide +kernel
theorem d101_55 : decode (mB 101) 55 = .ok (.iload_n 1, 1) := by decide +kernel
theorem d101_56 : decode (mB 101) 56 = .ok (.imul, 1) := by decide +kernel
theorem d101_57 : decode (mB 101) 57 = .ok (.iload 5, 2) := by decide +kernel
theorem d101_59 : decode (mB 101) 59 = .ok (.iadd, 1) := by decide +kernel
theorem d101_60 : decode (mB 101) 60 = .ok (.iaload, 1) := by decide +kernel
theorem d101_61 : decode (mB 101) 61 = .ok (.if_icmp .ne 7, 3) := by decide +kernel
theorem d101_64 : decode (mB 101) 64 = .ok (.iconst 1, 1) := by decide +kernel
theorem d101_65 : decode (mB 101) 65 = .ok (.goto 4, 3) := by decide +kernel
theorem d101_68 : decode (mB 101) 68 = .ok (.iconst 0, 1) := by decide +kernel
theorem d101_69 : decode (mB 101) 69 = .ok (.istore 4, 2) := by decide +kernel
theorem d101_71 : decode (mB 101) 71 = .ok (.iinc 5 1, 3) := by decide +kernel
theorem d101_74 : decode (mB 101) 74 = .ok (.goto (-50), 3) := by decide +kernel
theorem d101_77 : decode (mB 101) 77 = .ok (.iload 4, 2) := by decide +kernel
theorem d101_79 : decode (mB 101) 79 = .ok (.ireturn, 1) := by decide +kernel
theorem v101_0 (L : Nat) (xs : Nat → Int32) : zVal L xs 101 0 (.inl (i_il 2 1)) := zS_iload_n d101_0 rfl
theorem v101_1 (L : Nat) (xs : Nat → Int32) : zVal L xs 101 1 (.inl (i_al 0 2)) := zS_aload_n d101_1 rfl
theorem v101_2 (L : Nat) (xs : Nat → Int32) : zVal L xs 101 2 (.inl (i_gf 10 6 5)) := zS_getf d101_2 (zcl10) (by decide) zi10 w784
theorem v101_5 (L : Nat) (xs : Nat → Int32) : zVal L xs 101 5 (.inl (i_il 1 6)) := zS_iload_n d101_5 rfl
theorem v101_6 (L : Nat) (xs : Nat → Int32) : zVal L xs 101 6 (.inl (i_ga 0 7)) := zS_iald d101_6
theorem v101_7 (L : Nat) (xs : Nat → Int32) : zVal L xs 101 7 (.inl (i_bi (fun x y => x + y) 8)) := zS_iadd d101_7
theorem v101_8 (L : Nat) (xs : Nat → Int32) : zVal L xs 101 8 (.inl (i_il 3 9)) := zS_iload_n d101_8 rfl
theorem v101_9 (L : Nat) (xs : Nat → Int32) : zVal L xs 101 9 (.inl (i_c (.int 2) 10)) := zS_iconst d101_9 (by decide)
theorem v101_10 (L : Nat) (xs : Nat → Int32) : zVal L xs 101 10 (.inl (i_bi (fun x y => x + y) 11)) := zS_iadd d101_10
theorem v101_11 (L : Nat) (xs : Nat → Int32) : zVal L xs 101 11 (.inl (i_f2 (fun x y => decide (y < x)) 18 14)) := zS_icmp_gt d101_11 (by decide)
theorem v101_14 (L : Nat) (xs : Nat → Int32) : zVal L xs 101 14 (.inl (i_c (.int 1) 15)) := zS_iconst d101_14 (by decide)
theorem v101_15 (L : Nat) (xs : Nat → Int32) : zVal L xs 101 15 (.inl (i_go 19)) := zS_goto d101_15 (by decide)
theorem v101_18 (L : Nat) (xs : Nat → Int32) : zVal L xs 101 18 (.inl (i_c (.int 0) 19)) := zS_iconst d101_18 (by decide)
theorem v101_19 (L : Nat) (xs : Nat → Int32) : zVal L xs 101 19 (.inl (i_k [false, false, false, true, true, true] (i_is 4 21))) := zS_k (zS_istore d101_19)
theorem v101_21 (L : Nat) (xs : Nat → Int32) : zVal L xs 101 21 (.inl (i_c (.int 0) 22)) := zS_iconst d101_21 (by decide)
theorem v101_22 (L : Nat) (xs : Nat → Int32) : zVal L xs 101 22 (.inl (i_is 5 24)) := zS_istore d101_22
theorem v101_24 (L : Nat) (xs : Nat → Int32) : zVal L xs 101 24 (.inl (i_k [false, false, false, true, false, false] (i_il 5 26))) := zS_k (zS_iload d101_24)
theorem v101_26 (L : Nat) (xs : Nat → Int32) : zVal L xs 101 26 (.inl (i_al 0 27)) := zS_aload_n d101_26 rfl
theorem v101_27 (L : Nat) (xs : Nat → Int32) : zVal L xs 101 27 (.inl (i_gf 10 6 30)) := zS_getf d101_27 (zcl10) (by decide) zi10 w784
theorem v101_30 (L : Nat) (xs : Nat → Int32) : zVal L xs 101 30 (.inl (i_il 1 31)) := zS_iload_n d101_30 rfl
theorem v101_31 (L : Nat) (xs : Nat → Int32) : zVal L xs 101 31 (.inl (i_ga 0 32)) := zS_iald d101_31
theorem v101_32 (L : Nat) (xs : Nat → Int32) : zVal L xs 101 32 (.inl (i_f2 (fun x y => decide (y ≤ x)) 77 35)) := zS_icmp_ge d101_32 (by decide)
theorem v101_35 (L : Nat) (xs : Nat → Int32) : zVal L xs 101 35 (.inl (i_il 4 37)) := zS_iload d101_35
theorem v101_37 (L : Nat) (xs : Nat → Int32) : zVal L xs 101 37 (.inl (i_f1 (fun x => decide (x = 0)) 77 40)) := zS_if_eq d101_37 (by decide)
theorem v101_40 (L : Nat) (xs : Nat → Int32) : zVal L xs 101 40 (.inl (i_al 0 41)) := zS_aload_n d101_40 rfl
theorem v101_41 (L : Nat) (xs : Nat → Int32) : zVal L xs 101 41 (.inl (i_gf 10 9 44)) := zS_getf d101_41 (zcl10) (by decide) zi10 w787
theorem v101_44 (L : Nat) (xs : Nat → Int32) : zVal L xs 101 44 (.inl (i_il 2 45)) := zS_iload_n d101_44 rfl
theorem v101_45 (L : Nat) (xs : Nat → Int32) : zVal L xs 101 45 (.inl (i_il 5 47)) := zS_iload d101_45
theorem v101_47 (L : Nat) (xs : Nat → Int32) : zVal L xs 101 47 (.inl (i_bi (fun x y => x + y) 48)) := zS_iadd d101_47
theorem v101_48 (L : Nat) (xs : Nat → Int32) : zVal L xs 101 48 (.inl (i_ga 0 49)) := zS_iald d101_48
theorem v101_49 (L : Nat) (xs : Nat → Int32) : zVal L xs 101 49 (.inl (i_al 0 50)) := zS_aload_n d101_49 rfl
theorem v101_50 (L : Nat) (xs : Nat → Int32) : zVal L xs 101 50 (.inl (i_gf 10 7 53)) := zS_getf d101_50 (zcl10) (by decide) zi10 w785
theorem v101_53 (L : Nat) (xs : Nat → Int32) : zVal L xs 101 53 (.inl (i_c (.int 6) 55)) := zS_bipush d101_53 (by decide)
theorem v101_55 (L : Nat) (xs : Nat → Int32) : zVal L xs 101 55 (.inl (i_il 1 56)) := zS_iload_n d101_55 rfl
theorem v101_56 (L : Nat) (xs : Nat → Int32) : zVal L xs 101 56 (.inl (i_bi (fun x y => x * y) 57)) := zS_imul d101_56
theorem v101_57 (L : Nat) (xs : Nat → Int32) : zVal L xs 101 57 (.inl (i_il 5 59)) := zS_iload d101_57
theorem v101_59 (L : Nat) (xs : Nat → Int32) : zVal L xs 101 59 (.inl (i_bi (fun x y => x + y) 60)) := zS_iadd d101_59
theorem v101_60 (L : Nat) (xs : Nat → Int32) : zVal L xs 101 60 (.inl (i_ga 0 61)) := zS_iald d101_60
theorem v101_61 (L : Nat) (xs : Nat → Int32) : zVal L xs 101 61 (.inl (i_f2 (fun x y => decide (¬ x = y)) 68 64)) := zS_icmp_ne d101_61 (by decide)
theorem v101_64 (L : Nat) (xs : Nat → Int32) : zVal L xs 101 64 (.inl (i_c (.int 1) 65)) := zS_iconst d101_64 (by decide)
theorem v101_65 (L : Nat) (xs : Nat → Int32) : zVal L xs 101 65 (.inl (i_go 69)) := zS_goto d101_65 (by decide)
theorem v101_68 (L : Nat) (xs : Nat → Int32) : zVal L xs 101 68 (.inl (i_c (.int 0) 69)) := zS_iconst d101_68 (by decide)
theorem v101_69 (L : Nat) (xs : Nat → Int32) : zVal L xs 101 69 (.inl (i_k [false, false, false, true, true, false] (i_is 4 71))) := zS_k (zS_istore d101_69)
theorem v101_71 (L : Nat) (xs : Nat → Int32) : zVal L xs 101 71 (.inl (i_in 5 1 74)) := zS_iinc d101_71 (by decide)
theorem v101_74 (L : Nat) (xs : Nat → Int32) : zVal L xs 101 74 (.inl (i_go 24)) := zS_goto d101_74 (by decide)
theorem v101_77 (L : Nat) (xs : Nat → Int32) : zVal L xs 101 77 (.inl (i_k [true, true, true, true, false, true] (i_il 4 79))) := zS_k (zS_iload d101_77)
theorem v101_79 (L : Nat) (xs : Nat → Int32) : zVal L xs 101 79 (.inr (.inr 2)) := zr_2 d101_79 rfl
theorem vt101 (L : Nat) (xs : Nat → Int32) : zAll (fun x => zVal L xs 101 x.1 x.2) (tb101) := ⟨v101_0 L xs, v101_1 L xs, v101_2 L xs, v101_5 L xs, v101_6 L xs, v101_7 L xs, v101_8 L xs, v101_9 L xs, v101_10 L xs, v101_11 L xs, v101_14 L xs, v101_15 L xs, v101_18 L xs, v101_19 L xs, v101_21 L xs, v101_22 L xs, v101_24 L xs, v101_26 L xs, v101_27 L xs, v101_30 L xs, v101_31 L xs, v101_32 L xs, v101_35 L xs, v101_37 L xs, v101_40 L xs, v101_41 L xs, v101_44 L xs, v101_45 L xs, v101_47 L xs, v101_48 L xs, v101_49 L xs, v101_50 L xs, v101_53 L xs, v101_55 L xs, v101_56 L xs, v101_57 L xs, v101_59 L xs, v101_60 L xs, v101_61 L xs, v101_64 L xs, v101_65 L xs, v101_68 L xs, v101_69 L xs, v101_71 L xs, v101_74 L xs, v101_77 L xs, v101_79 L xs, trivial⟩
theorem d102_0 : decode (mB 102) 0 = .ok (.aload_n 0, 1) := by decide +kernel
theorem d102_1 : decode (mB 102) 1 = .ok (.getfield 25, 3) := by decide +kernel
theorem d102_4 : decode (mB 102) 4 = .ok (.iconst 0, 1) := by decide +kernel
theorem d102_5 : decode (mB 102) 5 = .ok (.bipush 46, 2) := by decide +kernel
theorem d102_7 : decode (mB 102) 7 = .ok (.iastore, 1) := by decide +kernel
theorem d102_8 : decode (mB 102) 8 = .ok (.aload_n 0, 1) := by decide +kernel
theorem d102_9 : decode (mB 102) 9 = .ok (.getfield 25, 3) := by decide +kernel
theorem d102_12 : decode (mB 102) 12 = .ok (.iload_n 1, 1) := by decide +kernel
theorem d102_13 : decode (mB 102) 13 = .ok (.iconst 1, 1) := by decide +kernel
theorem d102_14 : decode (mB 102) 14 = .ok (.iadd, 1) := by decide +kernel
theorem d102_15 : decode (mB 102) 15 = .ok (.bipush 46, 2) := by decide +kernel
theorem d102_17 : decode (mB 102) 17 = .ok (.iastore, 1) := by decide +kernel
theorem d102_18 : decode (mB 102) 18 = .ok (.iconst 0, 1) := by decide +kernel
theorem d102_19 : decode (mB 102) 19 = .ok (.istore_n 2, 1) := by decide +kernel
theorem d102_20 : decode (mB 102) 20 = .ok (.iload_n 2, 1) := by decide +kernel
theorem d102_21 : decode (mB 102) 21 = .ok (.bipush 15, 2) := by decide +kernel
theorem d102_23 : decode (mB 102) 23 = .ok (.if_icmp .ge 16, 3) := by decide +kernel
theorem d102_26 : decode (mB 102) 26 = .ok (.aload_n 0, 1) := by decide +kernel
theorem d102_27 : decode (mB 102) 27 = .ok (.getfield 28, 3) := by decide +kernel
theorem d102_30 : decode (mB 102) 30 = .ok (.iload_n 2, 1) := by decide +kernel
theorem d102_31 : decode (mB 102) 31 = .ok (.iconst 0, 1) := by decide +kernel
theorem d102_32 : decode (mB 102) 32 = .ok (.iastore, 1) := by decide +kernel
theorem d102_33 : decode (mB 102) 33 = .ok (.iinc 2 1, 3) := by decide +kernel
theorem d102_36 : decode (mB 102) 36 = .ok (.goto (-16), 3) := by decide +kernel
theorem d102_39 : decode (mB 102) 39 = .ok (.iconst 0, 1) := by decide +kernel
theorem d102_40 : decode (mB 102) 40 = .ok (.istore_n 2, 1) := by decide +kernel
theorem d102_41 : decode (mB 102) 41 = .ok (.iload_n 2, 1) := by decide +kernel
theorem d102_42 : decode (mB 102) 42 = .ok (.aload_n 0, 1) := by decide +kernel
theorem d102_43 : decode (mB 102) 43 = .ok (.getfield 137, 3) := by decide +kernel
theorem d102_46 : decode (mB 102) 46 = .ok (.if_icmp .ge 109, 3) := by decide +kernel
theorem d102_49 : decode (mB 102) 49 = .ok (.iconst 0, 1) := by decide +kernel
theorem d102_50 : decode (mB 102) 50 = .ok (.istore_n 3, 1) := by decide +kernel
theorem d102_51 : decode (mB 102) 51 = .ok (.iload_n 3, 1) := by decide +kernel
theorem d102_52 : decode (mB 102) 52 = .ok (.iload_n 1, 1) := by decide +kernel
theorem d102_53 : decode (mB 102) 53 = .ok (.iconst 2, 1) := by decide +kernel
theorem d102_54 : decode (mB 102) 54 = .ok (.iadd, 1) := by decide +kernel
theorem d102_55 : decode (mB 102) 55 = .ok (.if_icmp .ge 94, 3) := by decide +kernel
theorem d102_58 : decode (mB 102) 58 = .ok (.aload_n 0, 1) := by decide +kernel
theorem d102_59 : decode (mB 102) 59 = .ok (.iload_n 2, 1) := by decide +kernel
theorem d102_60 : decode (mB 102) 60 = .ok (.iload_n 3, 1) := by decide +kernel
theorem d102_61 : decode (mB 102) 61 = .ok (.iload_n 1, 1) := by decide +kernel
theorem d102_62 : decode (mB 102) 62 = .ok (.invokevirtual 144, 3) := by decide +kernel
theorem d102_65 : decode (mB 102) 65 = .ok (.istore 4, 2) := by decide +kernel
theorem d102_67 : decode (mB 102) 67 = .ok (.iconst 0, 1) := by decide +kernel
theorem d102_68 : decode (mB 102) 68 = .ok (.istore 5, 2) := by decide +kernel
theorem d102_70 : decode (mB 102) 70 = .ok (.iload 5, 2) := by decide +kernel
theorem d102_72 : decode (mB 102) 72 = .ok (.aload_n 0, 1) := by decide +kernel
theorem d102_73 : decode (mB 102) 73 = .ok (.getfield 16, 3) := by decide +kernel
theorem d102_76 : decode (mB 102) 76 = .ok (.iload_n 2, 1) := by decide +kernel
theorem d102_77 : decode (mB 102) 77 = .ok (.iaload, 1) := by decide +kernel
theorem d102_78 : decode (mB 102) 78 = .ok (.if_icmp .gt 65, 3) := by decide +kernel
theorem d102_81 : decode (mB 102) 81 = .ok (.iload 4, 2) := by decide +kernel
theorem d102_83 : decode (mB 102) 83 = .ok (.ifCond .eq 60, 3) := by decide +kernel
theorem d102_86 : decode (mB 102) 86 = .ok (.aload_n 0, 1) := by decide +kernel
theorem d102_87 : decode (mB 102) 87 = .ok (.getfield 22, 3) := by decide +kernel
theorem d102_90 : decode (mB 102) 90 = .ok (.bipush 7, 2) := by decide +kernel
theorem d102_92 : decode (mB 102) 92 = .ok (.iload_n 2, 1) := by decide +kernel
theorem d102_93 : decode (mB 102) 93 = .ok (.imul, 1) := by decide +kernel
theorem d102_94 : decode (mB 102) 94 = .ok (.iload 5, 2) := by decide +kernel
theorem d102_96 : decode (mB 102) 96 = .ok (.iadd, 1) := by decide +kernel
theorem d102_97 : decode (mB 102) 97 = .ok (.iaload, 1) := by decide +kernel
theorem d102_98 : decode (mB 102) 98 = .ok (.istore 6, 2) := by decide +kernel
theorem d102_100 : decode (mB 102) 100 = .ok (.aload_n 0, 1) := by decide +kernel
theorem d102_101 : decode (mB 102) 101 = .ok (.getfield 28, 3) := by decide +kernel
theorem d102_104 : decode (mB 102) 104 = .ok (.iload_n 3, 1) := by decide +kernel
theorem d102_105 : decode (mB 102) 105 = .ok (.iload 5, 2) := by decide +kernel
theorem d102_107 : decode (mB 102) 107 = .ok (.iadd, 1) := by decide +kernel
theorem d102_108 : decode (mB 102) 108 = .ok (.iload 6, 2) := by decide +kernel
theorem d102_110 : decode (mB 102) 110 = .ok (.aload_n 0, 1) := by decide +kernel
theorem d102_111 : decode (mB 102) 111 = .ok (.getfield 28, 3) := by decide +kernel
theorem d102_114 : decode (mB 102) 114 = .ok (.iload_n 3, 1) := by decide +kernel
theorem d102_115 : decode (mB 102) 115 = .ok (.iload 5, 2) := by decide +kernel
theorem d102_117 : decode (mB 102) 117 = .ok (.iadd, 1) := by decide +kernel
theorem d102_118 : decode (mB 102) 118 = .ok (.iaload, 1) := by decide +kernel
theorem d102_119 : decode (mB 102) 119 = .ok (.if_icmp .le 8, 3) := by decide +kernel
theorem d102_122 : decode (mB 102) 122 = .ok (.iload 6, 2) := by decide +kernel
theorem d102_124 : decode (mB 102) 124 = .ok (.goto 12, 3) := by decide +kernel
theorem d102_127 : decode (mB 102) 127 = .ok (.aload_n 0, 1) := by decide +kernel
theorem d102_128 : decode (mB 102) 128 = .ok (.getfield 28, 3) := by decide +kernel
theorem d102_131 : decode (mB 102) 131 = .ok (.iload_n 3, 1) := by decide +kernel
theorem d102_132 : decode (mB 102) 132 = .ok (.iload 5, 2) := by decide +kernel
theorem d102_134 : decode (mB 102) 134 = .ok (.iadd, 1) := by decide +kernel
theorem d102_135 : decode (mB 102) 135 = .ok (.iaload, 1) := by decide +kernel
theorem d102_136 : decode (mB 102) 136 = .ok (.iastore, 1) := by decide +kernel
theorem d102_137 : decode (mB 102) 137 = .ok (.iinc 5 1, 3) := by decide +kernel
theorem d102_140 : decode (mB 102) 140 = .ok (.goto (-70), 3) := by decide +kernel
theorem d102_143 : decode (mB 102) 143 = .ok (.iinc 3 1, 3) := by decide +kernel
theorem d102_146 : decode (mB 102) 146 = .ok (.goto (-95), 3) := by decide +kernel
theorem d102_149 : decode (mB 102) 149 = .ok (.iinc 2 1, 3) := by decide +kernel
theorem d102_152 : decode (mB 102) 152 = .ok (.goto (-111), 3) := by decide +kernel
theorem d102_155 : decode (mB 102) 155 = .ok (.return_, 1) := by decide +kernel
theorem v102_0 (L : Nat) (xs : Nat → Int32) : zVal L xs 102 0 (.inl (i_al 0 1)) := zS_aload_n d102_0 rfl
theorem v102_1 (L : Nat) (xs : Nat → Int32) : zVal L xs 102 1 (.inl (i_gf 10 9 4)) := zS_getf d102_1 (zcl10) (by decide) zi10 w787
theorem v102_4 (L : Nat) (xs : Nat → Int32) : zVal L xs 102 4 (.inl (i_c (.int 0) 5)) := zS_iconst d102_4 (by decide)
theorem v102_5 (L : Nat) (xs : Nat → Int32) : zVal L xs 102 5 (.inl (i_c (.int 46) 7)) := zS_bipush d102_5 (by decide)
theorem v102_7 (L : Nat) (xs : Nat → Int32) : zVal L xs 102 7 (.inl (i_pa 0 (fun x => x) 8)) := zS_iast d102_7
theorem v102_8 (L : Nat) (xs : Nat → Int32) : zVal L xs 102 8 (.inl (i_al 0 9)) := zS_aload_n d102_8 rfl
theorem v102_9 (L : Nat) (xs : Nat → Int32) : zVal L xs 102 9 (.inl (i_gf 10 9 12)) := zS_getf d102_9 (zcl10) (by decide) zi10 w787
theorem v102_12 (L : Nat) (xs : Nat → Int32) : zVal L xs 102 12 (.inl (i_il 1 13)) := zS_iload_n d102_12 rfl
theorem v102_13 (L : Nat) (xs : Nat → Int32) : zVal L xs 102 13 (.inl (i_c (.int 1) 14)) := zS_iconst d102_13 (by decide)
theorem v102_14 (L : Nat) (xs : Nat → Int32) : zVal L xs 102 14 (.inl (i_bi (fun x y => x + y) 15)) := zS_iadd d102_14
theorem v102_15 (L : Nat) (xs : Nat → Int32) : zVal L xs 102 15 (.inl (i_c (.int 46) 17)) := zS_bipush d102_15 (by decide)
theorem v102_17 (L : Nat) (xs : Nat → Int32) : zVal L xs 102 17 (.inl (i_pa 0 (fun x => x) 18)) := zS_iast d102_17
theorem v102_18 (L : Nat) (xs : Nat → Int32) : zVal L xs 102 18 (.inl (i_c (.int 0) 19)) := zS_iconst d102_18 (by decide)
theorem v102_19 (L : Nat) (xs : Nat → Int32) : zVal L xs 102 19 (.inl (i_is 2 20)) := zS_istore_n d102_19 rfl
theorem v102_20 (L : Nat) (xs : Nat → Int32) : zVal L xs 102 20 (.inl (i_k [false, false, false, true, true, true, true] (i_il 2 21))) := zS_k (zS_iload_n d102_20 rfl)
theorem v102_21 (L : Nat) (xs : Nat → Int32) : zVal L xs 102 21 (.inl (i_c (.int 15) 23)) := zS_bipush d102_21 (by decide)
theorem v102_23 (L : Nat) (xs : Nat → Int32) : zVal L xs 102 23 (.inl (i_f2 (fun x y => decide (y ≤ x)) 39 26)) := zS_icmp_ge d102_23 (by decide)
theorem v102_26 (L : Nat) (xs : Nat → Int32) : zVal L xs 102 26 (.inl (i_al 0 27)) := zS_aload_n d102_26 rfl
theorem v102_27 (L : Nat) (xs : Nat → Int32) : zVal L xs 102 27 (.inl (i_gf 10 10 30)) := zS_getf d102_27 (zcl10) (by decide) zi10 w788
theorem v102_30 (L : Nat) (xs : Nat → Int32) : zVal L xs 102 30 (.inl (i_il 2 31)) := zS_iload_n d102_30 rfl
theorem v102_31 (L : Nat) (xs : Nat → Int32) : zVal L xs 102 31 (.inl (i_c (.int 0) 32)) := zS_iconst d102_31 (by decide)
theorem v102_32 (L : Nat) (xs : Nat → Int32) : zVal L xs 102 32 (.inl (i_pa 0 (fun x => x) 33)) := zS_iast d102_32
theorem v102_33 (L : Nat) (xs : Nat → Int32) : zVal L xs 102 33 (.inl (i_in 2 1 36)) := zS_iinc d102_33 (by decide)
theorem v102_36 (L : Nat) (xs : Nat → Int32) : zVal L xs 102 36 (.inl (i_go 20)) := zS_goto d102_36 (by decide)
theorem v102_39 (L : Nat) (xs : Nat → Int32) : zVal L xs 102 39 (.inl (i_c (.int 0) 40)) := zS_iconst d102_39 (by decide)
theorem v102_40 (L : Nat) (xs : Nat → Int32) : zVal L xs 102 40 (.inl (i_is 2 41)) := zS_istore_n d102_40 rfl
theorem v102_41 (L : Nat) (xs : Nat → Int32) : zVal L xs 102 41 (.inl (i_k [false, false, false, true, true, true, true] (i_il 2 42))) := zS_k (zS_iload_n d102_41 rfl)
theorem v102_42 (L : Nat) (xs : Nat → Int32) : zVal L xs 102 42 (.inl (i_al 0 43)) := zS_aload_n d102_42 rfl
theorem v102_43 (L : Nat) (xs : Nat → Int32) : zVal L xs 102 43 (.inl (i_gf 10 5 46)) := zS_getf d102_43 (zcl10) (by decide) zi10 w783
theorem v102_46 (L : Nat) (xs : Nat → Int32) : zVal L xs 102 46 (.inl (i_f2 (fun x y => decide (y ≤ x)) 155 49)) := zS_icmp_ge d102_46 (by decide)
theorem v102_49 (L : Nat) (xs : Nat → Int32) : zVal L xs 102 49 (.inl (i_c (.int 0) 50)) := zS_iconst d102_49 (by decide)
theorem v102_50 (L : Nat) (xs : Nat → Int32) : zVal L xs 102 50 (.inl (i_is 3 51)) := zS_istore_n d102_50 rfl
theorem v102_51 (L : Nat) (xs : Nat → Int32) : zVal L xs 102 51 (.inl (i_k [false, false, false, false, true, true, true] (i_il 3 52))) := zS_k (zS_iload_n d102_51 rfl)
theorem v102_52 (L : Nat) (xs : Nat → Int32) : zVal L xs 102 52 (.inl (i_il 1 53)) := zS_iload_n d102_52 rfl
theorem v102_53 (L : Nat) (xs : Nat → Int32) : zVal L xs 102 53 (.inl (i_c (.int 2) 54)) := zS_iconst d102_53 (by decide)
theorem v102_54 (L : Nat) (xs : Nat → Int32) : zVal L xs 102 54 (.inl (i_bi (fun x y => x + y) 55)) := zS_iadd d102_54
theorem v102_55 (L : Nat) (xs : Nat → Int32) : zVal L xs 102 55 (.inl (i_f2 (fun x y => decide (y ≤ x)) 149 58)) := zS_icmp_ge d102_55 (by decide)
theorem v102_58 (L : Nat) (xs : Nat → Int32) : zVal L xs 102 58 (.inl (i_al 0 59)) := zS_aload_n d102_58 rfl
theorem v102_59 (L : Nat) (xs : Nat → Int32) : zVal L xs 102 59 (.inl (i_il 2 60)) := zS_iload_n d102_59 rfl
theorem v102_60 (L : Nat) (xs : Nat → Int32) : zVal L xs 102 60 (.inl (i_il 3 61)) := zS_iload_n d102_60 rfl
theorem v102_61 (L : Nat) (xs : Nat → Int32) : zVal L xs 102 61 (.inl (i_il 1 62)) := zS_iload_n d102_61 rfl
theorem v102_62 (L : Nat) (xs : Nat → Int32) : zVal L xs 102 62 (.inr (.inl (101, 4, 11))) := ⟨by decide +kernel, by decide +kernel, zc_virt d102_62 zcl10 w951 w948 w950 w37 w85 ⟨by decide +kernel, by decide +kernel, by decide +kernel⟩ (by decide) (by decide)⟩
theorem v102_65 (L : Nat) (xs : Nat → Int32) : zVal L xs 102 65 (.inl (i_is 4 67)) := zS_istore d102_65
theorem v102_67 (L : Nat) (xs : Nat → Int32) : zVal L xs 102 67 (.inl (i_c (.int 0) 68)) := zS_iconst d102_67 (by decide)
theorem v102_68 (L : Nat) (xs : Nat → Int32) : zVal L xs 102 68 (.inl (i_is 5 70)) := zS_istore d102_68
theorem v102_70 (L : Nat) (xs : Nat → Int32) : zVal L xs 102 70 (.inl (i_k [false, false, false, false, false, false, true] (i_il 5 72))) := zS_k (zS_iload d102_70)
theorem v102_72 (L : Nat) (xs : Nat → Int32) : zVal L xs 102 72 (.inl (i_al 0 73)) := zS_aload_n d102_72 rfl
theorem v102_73 (L : Nat) (xs : Nat → Int32) : zVal L xs 102 73 (.inl (i_gf 10 6 76)) := zS_getf d102_73 (zcl10) (by decide) zi10 w784
theorem v102_76 (L : Nat) (xs : Nat → Int32) : zVal L xs 102 76 (.inl (i_il 2 77)) := zS_iload_n d102_76 rfl
theorem v102_77 (L : Nat) (xs : Nat → Int32) : zVal L xs 102 77 (.inl (i_ga 0 78)) := zS_iald d102_77
theorem v102_78 (L : Nat) (xs : Nat → Int32) : zVal L xs 102 78 (.inl (i_f2 (fun x y => decide (y < x)) 143 81)) := zS_icmp_gt d102_78 (by decide)
theorem v102_81 (L : Nat) (xs : Nat → Int32) : zVal L xs 102 81 (.inl (i_il 4 83)) := zS_iload d102_81
theorem v102_83 (L : Nat) (xs : Nat → Int32) : zVal L xs 102 83 (.inl (i_f1 (fun x => decide (x = 0)) 143 86)) := zS_if_eq d102_83 (by decide)
theorem v102_86 (L : Nat) (xs : Nat → Int32) : zVal L xs 102 86 (.inl (i_al 0 87)) := zS_aload_n d102_86 rfl
theorem v102_87 (L : Nat) (xs : Nat → Int32) : zVal L xs 102 87 (.inl (i_gf 10 8 90)) := zS_getf d102_87 (zcl10) (by decide) zi10 w786
theorem v102_90 (L : Nat) (xs : Nat → Int32) : zVal L xs 102 90 (.inl (i_c (.int 7) 92)) := zS_bipush d102_90 (by decide)
theorem v102_92 (L : Nat) (xs : Nat → Int32) : zVal L xs 102 92 (.inl (i_il 2 93)) := zS_iload_n d102_92 rfl
theorem v102_93 (L : Nat) (xs : Nat → Int32) : zVal L xs 102 93 (.inl (i_bi (fun x y => x * y) 94)) := zS_imul d102_93
theorem v102_94 (L : Nat) (xs : Nat → Int32) : zVal L xs 102 94 (.inl (i_il 5 96)) := zS_iload d102_94
theorem v102_96 (L : Nat) (xs : Nat → Int32) : zVal L xs 102 96 (.inl (i_bi (fun x y => x + y) 97)) := zS_iadd d102_96
theorem v102_97 (L : Nat) (xs : Nat → Int32) : zVal L xs 102 97 (.inl (i_ga 0 98)) := zS_iald d102_97
theorem v102_98 (L : Nat) (xs : Nat → Int32) : zVal L xs 102 98 (.inl (i_is 6 100)) := zS_istore d102_98
theorem v102_100 (L : Nat) (xs : Nat → Int32) : zVal L xs 102 100 (.inl (i_al 0 101)) := zS_aload_n d102_100 rfl
theorem v102_101 (L : Nat) (xs : Nat → Int32) : zVal L xs 102 101 (.inl (i_gf 10 10 104)) := zS_getf d102_101 (zcl10) (by decide) zi10 w788
theorem v102_104 (L : Nat) (xs : Nat → Int32) : zVal L xs 102 104 (.inl (i_il 3 105)) := zS_iload_n d102_104 rfl
theorem v102_105 (L : Nat) (xs : Nat → Int32) : zVal L xs 102 105 (.inl (i_il 5 107)) := zS_iload d102_105
theorem v102_107 (L : Nat) (xs : Nat → Int32) : zVal L xs 102 107 (.inl (i_bi (fun x y => x + y) 108)) := zS_iadd d102_107
theorem v102_108 (L : Nat) (xs : Nat → Int32) : zVal L xs 102 108 (.inl (i_il 6 110)) := zS_iload d102_108
theorem v102_110 (L : Nat) (xs : Nat → Int32) : zVal L xs 102 110 (.inl (i_al 0 111)) := zS_aload_n d102_110 rfl
theorem v102_111 (L : Nat) (xs : Nat → Int32) : zVal L xs 102 111 (.inl (i_gf 10 10 114)) := zS_getf d102_111 (zcl10) (by decide) zi10 w788
theorem v102_114 (L : Nat) (xs : Nat → Int32) : zVal L xs 102 114 (.inl (i_il 3 115)) := zS_iload_n d102_114 rfl
theorem v102_115 (L : Nat) (xs : Nat → Int32) : zVal L xs 102 115 (.inl (i_il 5 117)) := zS_iload d102_115
theorem v102_117 (L : Nat) (xs : Nat → Int32) : zVal L xs 102 117 (.inl (i_bi (fun x y => x + y) 118)) := zS_iadd d102_117
theorem v102_118 (L : Nat) (xs : Nat → Int32) : zVal L xs 102 118 (.inl (i_ga 0 119)) := zS_iald d102_118
theorem v102_119 (L : Nat) (xs : Nat → Int32) : zVal L xs 102 119 (.inl (i_f2 (fun x y => decide (x ≤ y)) 127 122)) := zS_icmp_le d102_119 (by decide)
theorem v102_122 (L : Nat) (xs : Nat → Int32) : zVal L xs 102 122 (.inl (i_il 6 124)) := zS_iload d102_122
theorem v102_124 (L : Nat) (xs : Nat → Int32) : zVal L xs 102 124 (.inl (i_go 136)) := zS_goto d102_124 (by decide)
theorem v102_127 (L : Nat) (xs : Nat → Int32) : zVal L xs 102 127 (.inl (i_al 0 128)) := zS_aload_n d102_127 rfl
theorem v102_128 (L : Nat) (xs : Nat → Int32) : zVal L xs 102 128 (.inl (i_gf 10 10 131)) := zS_getf d102_128 (zcl10) (by decide) zi10 w788
theorem v102_131 (L : Nat) (xs : Nat → Int32) : zVal L xs 102 131 (.inl (i_il 3 132)) := zS_iload_n d102_131 rfl
theorem v102_132 (L : Nat) (xs : Nat → Int32) : zVal L xs 102 132 (.inl (i_il 5 134)) := zS_iload d102_132
theorem v102_134 (L : Nat) (xs : Nat → Int32) : zVal L xs 102 134 (.inl (i_bi (fun x y => x + y) 135)) := zS_iadd d102_134
theorem v102_135 (L : Nat) (xs : Nat → Int32) : zVal L xs 102 135 (.inl (i_ga 0 136)) := zS_iald d102_135
theorem v102_136 (L : Nat) (xs : Nat → Int32) : zVal L xs 102 136 (.inl (i_k [false, false, false, false, false, false, true] (i_pa 0 (fun x => x) 137))) := zS_k (zS_iast d102_136)
theorem v102_137 (L : Nat) (xs : Nat → Int32) : zVal L xs 102 137 (.inl (i_in 5 1 140)) := zS_iinc d102_137 (by decide)
theorem v102_140 (L : Nat) (xs : Nat → Int32) : zVal L xs 102 140 (.inl (i_go 70)) := zS_goto d102_140 (by decide)
theorem v102_143 (L : Nat) (xs : Nat → Int32) : zVal L xs 102 143 (.inl (i_k [false, false, false, false, true, true, true] (i_in 3 1 146))) := zS_k (zS_iinc d102_143 (by decide))
theorem v102_146 (L : Nat) (xs : Nat → Int32) : zVal L xs 102 146 (.inl (i_go 51)) := zS_goto d102_146 (by decide)
theorem v102_149 (L : Nat) (xs : Nat → Int32) : zVal L xs 102 149 (.inl (i_in 2 1 152)) := zS_iinc d102_149 (by decide)
theorem v102_152 (L : Nat) (xs : Nat → Int32) : zVal L xs 102 152 (.inl (i_go 41)) := zS_goto d102_152 (by decide)
theorem v102_155 (L : Nat) (xs : Nat → Int32) : zVal L xs 102 155 (.inr (.inr 0)) := zr_0 d102_155 rfl
theorem vt102 (L : Nat) (xs : Nat → Int32) : zAll (fun x => zVal L xs 102 x.1 x.2) (tb102) := ⟨v102_0 L xs, v102_1 L xs, v102_4 L xs, v102_5 L xs, v102_7 L xs, v102_8 L xs, v102_9 L xs, v102_12 L xs, v102_13 L xs, v102_14 L xs, v102_15 L xs, v102_17 L xs, v102_18 L xs, v102_19 L xs, v102_20 L xs, v102_21 L xs, v102_23 L xs, v102_26 L xs, v102_27 L xs, v102_30 L xs, v102_31 L xs, v102_32 L xs, v102_33 L xs, v102_36 L xs, v102_39 L xs, v102_40 L xs, v102_41 L xs, v102_42 L xs, v102_43 L xs, v102_46 L xs, v102_49 L xs, v102_50 L xs, v102_51 L xs, v102_52 L xs, v102_53 L xs, v102_54 L xs, v102_55 L xs, v102_58 L xs, v102_59 L xs, v102_60 L xs, v102_61 L xs, v102_62 L xs, v102_65 L xs, v102_67 L xs, v102_68 L xs, v102_70 L xs, v102_72 L xs, v102_73 L xs, v102_76 L xs, v102_77 L xs, v102_78 L xs, v102_81 L xs, v102_83 L xs, v102_86 L xs, v102_87 L xs, v102_90 L xs, v102_92 L xs, v102_93 L xs, v102_94 L xs, v102_96 L xs, v102_97 L xs, v102_98 L xs, v102_100 L xs, v102_101 L xs, v102_104 L xs, v102_105 L xs, v102_107 L xs, v102_108 L xs, v102_110 L xs, v102_111 L xs, v102_114 L xs, v102_115 L xs, v102_117 L xs, v102_118 L xs, v102_119 L xs, v102_122 L xs, v102_124 L xs, v102_127 L xs, v102_128 L xs, v102_131 L xs, v102_132 L xs, v102_134 L xs, v102_135 L xs, v102_136 L xs, v102_137 L xs, v102_140 L xs, v102_143 L xs, v102_146 L xs, v102_149 L xs, v102_152 L xs, v102_155 L xs, trivial⟩
theorem d103_0 : decode (mB 103) 0 = .ok (.iload_n 1, 1) := by decide +kernel
theorem d103_1 : decode (mB 103) 1 = .ok (.iconst 2, 1) := by decide +kernel
theorem d103_2 : decode (mB 103) 2 = .ok (.if_icmp .lt 28, 3) := by decide +kernel
theorem d103_5 : decode (mB 103) 5 = .ok (.iload_n 2, 1) := by decide +kernel
theorem d103_6 : decode (mB 103) 6 = .ok (.iload_n 1, 1) := by decide +kernel
theorem d103_7 : decode (mB 103) 7 = .ok (.isub, 1) := by decide +kernel
theorem d103_8 : decode (mB 103) 8 = .ok (.iconst 2, 1) := by decide +kernel
theorem d103_9 : decode (mB 103) 9 = .ok (.if_icmp .lt 21, 3) := by decide +kernel
theorem d103_12 : decode (mB 103) 12 = .ok (.aload_n 0, 1) := by decide +kernel
theorem d103_13 : decode (mB 103) 13 = .ok (.getfield 28, 3) := by decide +kernel
theorem d103_16 : decode (mB 103) 16 = .ok (.iload_n 1, 1) := by decide +kernel
theorem d103_17 : decode (mB 103) 17 = .ok (.iconst 1, 1) := by decide +kernel
theorem d103_18 : decode (mB 103) 18 = .ok (.iadd, 1) := by decide +kernel
theorem d103_19 : decode (mB 103) 19 = .ok (.iaload, 1) := by decide +kernel
theorem d103_20 : decode (mB 103) 20 = .ok (.iconst 2, 1) := by decide +kernel
theorem d103_21 : decode (mB 103) 21 = .ok (.irem, 1) := by decide +kernel
theorem d103_22 : decode (mB 103) 22 = .ok (.iconst 1, 1) := by decide +kernel
theorem d103_23 : decode (mB 103) 23 = .ok (.if_icmp .ne 7, 3) := by decide +kernel
theorem d103_26 : decode (mB 103) 26 = .ok (.iconst 1, 1) := by decide +kernel
theorem d103_27 : decode (mB 103) 27 = .ok (.goto 4, 3) := by decide +kernel
theorem d103_30 : decode (mB 103) 30 = .ok (.iconst 0, 1) := by decide +kernel
theorem d103_31 : decode (mB 103) 31 = .ok (.ireturn, 1) := by decide +kernel
theorem v103_0 (L : Nat) (xs : Nat → Int32) : zVal L xs 103 0 (.inl (i_il 1 1)) := zS_iload_n d103_0 rfl
theorem v103_1 (L : Nat) (xs : Nat → Int32) : zVal L xs 103 1 (.inl (i_c (.int 2) 2)) := zS_iconst d103_1 (by decide)
theorem v103_2 (L : Nat) (xs : Nat → Int32) : zVal L xs 103 2 (.inl (i_f2 (fun x y => decide (x < y)) 30 5)) := zS_icmp_lt d103_2 (by decide)
theorem v103_5 (L : Nat) (xs : Nat → Int32) : zVal L xs 103 5 (.inl (i_il 2 6)) := zS_iload_n d103_5 rfl
theorem v103_6 (L : Nat) (xs : Nat → Int32) : zVal L xs 103 6 (.inl (i_il 1 7)) := zS_iload_n d103_6 rfl
theorem v103_7 (L : Nat) (xs : Nat → Int32) : zVal L xs 103 7 (.inl (i_bi (fun x y => x - y) 8)) := zS_isub d103_7
theorem v103_8 (L : Nat) (xs : Nat → Int32) : zVal L xs 103 8 (.inl (i_c (.int 2) 9)) := zS_iconst d103_8 (by decide)
theorem v103_9 (L : Nat) (xs : Nat → Int32) : zVal L xs 103 9 (.inl (i_f2 (fun x y => decide (x < y)) 30 12)) := zS_icmp_lt d103_9 (by decide)
theorem v103_12 (L : Nat) (xs : Nat → Int32) : zVal L xs 103 12 (.inl (i_al 0 13)) := zS_aload_n d103_12 rfl
theorem v103_13 (L : Nat) (xs : Nat → Int32) : zVal L xs 103 13 (.inl (i_gf 10 10 16)) := zS_getf d103_13 (zcl10) (by decide) zi10 w788
theorem v103_16 (L : Nat) (xs : Nat → Int32) : zVal L xs 103 16 (.inl (i_il 1 17)) := zS_iload_n d103_16 rfl
theorem v103_17 (L : Nat) (xs : Nat → Int32) : zVal L xs 103 17 (.inl (i_c (.int 1) 18)) := zS_iconst d103_17 (by decide)
theorem v103_18 (L : Nat) (xs : Nat → Int32) : zVal L xs 103 18 (.inl (i_bi (fun x y => x + y) 19)) := zS_iadd d103_18
theorem v103_19 (L : Nat) (xs : Nat → Int32) : zVal L xs 103 19 (.inl (i_ga 0 20)) := zS_iald d103_19
theorem v103_20 (L : Nat) (xs : Nat → Int32) : zVal L xs 103 20 (.inl (i_c (.int 2) 21)) := zS_iconst d103_20 (by decide)
theorem v103_21 (L : Nat) (xs : Nat → Int32) : zVal L xs 103 21 (.inl (i_bz (fun x y => x - x / y * y) 22)) := zS_irem d103_21
theorem v103_22 (L : Nat) (xs : Nat → Int32) : zVal L xs 103 22 (.inl (i_c (.int 1) 23)) := zS_iconst d103_22 (by decide)
theorem v103_23 (L : Nat) (xs : Nat → Int32) : zVal L xs 103 23 (.inl (i_f2 (fun x y => decide (¬ x = y)) 30 26)) := zS_icmp_ne d103_23 (by decide)
theorem v103_26 (L : Nat) (xs : Nat → Int32) : zVal L xs 103 26 (.inl (i_c (.int 1) 27)) := zS_iconst d103_26 (by decide)
theorem v103_27 (L : Nat) (xs : Nat → Int32) : zVal L xs 103 27 (.inl (i_go 31)) := zS_goto d103_27 (by decide)
theorem v103_30 (L : Nat) (xs : Nat → Int32) : zVal L xs 103 30 (.inl (i_k [true, true, true] (i_c (.int 0) 31))) := zS_k (zS_iconst d103_30 (by decide))
theorem v103_31 (L : Nat) (xs : Nat → Int32) : zVal L xs 103 31 (.inr (.inr 2)) := zr_2 d103_31 rfl
theorem vt103 (L : Nat) (xs : Nat → Int32) : zAll (fun x => zVal L xs 103 x.1 x.2) (tb103) := ⟨v103_0 L xs, v103_1 L xs, v103_2 L xs, v103_5 L xs, v103_6 L xs, v103_7 L xs, v103_8 L xs, v103_9 L xs, v103_12 L xs, v103_13 L xs, v103_16 L xs, v103_17 L xs, v103_18 L xs, v103_19 L xs, v103_20 L xs, v103_21 L xs, v103_22 L xs, v103_23 L xs, v103_26 L xs, v103_27 L xs, v103_30 L xs, v103_31 L xs, trivial⟩
theorem d104_0 : decode (mB 104) 0 = .ok (.iload_n 3, 1) := by decide +kernel
theorem d104_1 : decode (mB 104) 1 = .ok (.iconst 1, 1) := by decide +kernel
theorem d104_2 : decode (mB 104) 2 = .ok (.if_icmp .lt 9, 3) := by decide +kernel
theorem d104_5 : decode (mB 104) 5 = .ok (.iload_n 3, 1) := by decide +kernel
theorem d104_6 : decode (mB 104) 6 = .ok (.bipush 8, 2) := by decide +kernel
theorem d104_8 : decode (mB 104) 8 = .ok (.if_icmp .le 5, 3) := by decide +kernel
theorem d104_11 : decode (mB 104) 11 = .ok (.iconst (-1), 1) := by decide +kernel
theorem d104_12 : decode (mB 104) 12 = .ok (.ireturn, 1) := by decide +kernel
theorem d104_13 : decode (mB 104) 13 = .ok (.iconst 0, 1) := by decide +kernel
theorem d104_14 : decode (mB 104) 14 = .ok (.istore 4, 2) := by decide +kernel
theorem d104_16 : decode (mB 104) 16 = .ok (.iload 4, 2) := by decide +kernel
theorem d104_18 : decode (mB 104) 18 = .ok (.iload_n 3, 1) := by decide +kernel
theorem d104_19 : decode (mB 104) 19 = .ok (.if_icmp .ge 24, 3) := by decide +kernel
theorem d104_22 : decode (mB 104) 22 = .ok (.lload_n 1, 1) := by decide +kernel
theorem d104_23 : decode (mB 104) 23 = .ok (.iload_n 3, 1) := by decide +kernel
theorem d104_24 : decode (mB 104) 24 = .ok (.iload 4, 2) := by decide +kernel
theorem d104_26 : decode (mB 104) 26 = .ok (.invokestatic 129, 3) := by decide +kernel
theorem d104_29 : decode (mB 104) 29 = .ok (.invokestatic 123, 3) := by decide +kernel
theorem d104_32 : decode (mB 104) 32 = .ok (.ifCond .ne 5, 3) := by decide +kernel
theorem d104_35 : decode (mB 104) 35 = .ok (.iconst (-1), 1) := by decide +kernel
theorem d104_36 : decode (mB 104) 36 = .ok (.ireturn, 1) := by decide +kernel
theorem d104_37 : decode (mB 104) 37 = .ok (.iinc 4 1, 3) := by decide +kernel
theorem d104_40 : decode (mB 104) 40 = .ok (.goto (-24), 3) := by decide +kernel
theorem d104_43 : decode (mB 104) 43 = .ok (.iconst 0, 1) := by decide +kernel
theorem d104_44 : decode (mB 104) 44 = .ok (.istore 4, 2) := by decide +kernel
theorem d104_46 : decode (mB 104) 46 = .ok (.iload 4, 2) := by decide +kernel
theorem d104_48 : decode (mB 104) 48 = .ok (.iload_n 3, 1) := by decide +kernel
theorem d104_49 : decode (mB 104) 49 = .ok (.if_icmp .ge 25, 3) := by decide +kernel
theorem d104_52 : decode (mB 104) 52 = .ok (.aload_n 0, 1) := by decide +kernel
theorem d104_53 : decode (mB 104) 53 = .ok (.getfield 25, 3) := by decide +kernel
theorem d104_56 : decode (mB 104) 56 = .ok (.iconst 1, 1) := by decide +kernel
theorem d104_57 : decode (mB 104) 57 = .ok (.iload 4, 2) := by decide +kernel
theorem d104_59 : decode (mB 104) 59 = .ok (.iadd, 1) := by decide +kernel
theorem d104_60 : decode (mB 104) 60 = .ok (.lload_n 1, 1) := by decide +kernel
theorem d104_61 : decode (mB 104) 61 = .ok (.iload_n 3, 1) := by decide +kernel
theorem d104_62 : decode (mB 104) 62 = .ok (.iload 4, 2) := by decide +kernel
theorem d104_64 : decode (mB 104) 64 = .ok (.invokestatic 129, 3) := by decide +kernel
theorem d104_67 : decode (mB 104) 67 = .ok (.iastore, 1) := by decide +kernel
theorem d104_68 : decode (mB 104) 68 = .ok (.iinc 4 1, 3) := by decide +kernel
theorem d104_71 : decode (mB 104) 71 = .ok (.goto (-25), 3) := by decide +kernel
theorem d104_74 : decode (mB 104) 74 = .ok (.aload_n 0, 1) := by decide +kernel
theorem d104_75 : decode (mB 104) 75 = .ok (.iload_n 3, 1) := by decide +kernel
theorem d104_76 : decode (mB 104) 76 = .ok (.invokevirtual 148, 3) := by decide +kernel
theorem d104_79 : decode (mB 104) 79 = .ok (.iconst 0, 1) := by decide +kernel
theorem d104_80 : decode (mB 104) 80 = .ok (.istore 4, 2) := by decide +kernel
theorem d104_82 : decode (mB 104) 82 = .ok (.iconst 1, 1) := by decide +kernel
theorem d104_83 : decode (mB 104) 83 = .ok (.istore 5, 2) := by decide +kernel
theorem d104_85 : decode (mB 104) 85 = .ok (.iload 5, 2) := by decide +kernel
theorem d104_87 : decode (mB 104) 87 = .ok (.iload_n 3, 1) := by decide +kernel
theorem d104_88 : decode (mB 104) 88 = .ok (.if_icmp .ge 33, 3) := by decide +kernel
theorem d104_91 : decode (mB 104) 91 = .ok (.aload_n 0, 1) := by decide +kernel
theorem d104_92 : decode (mB 104) 92 = .ok (.iload 5, 2) := by decide +kernel
theorem d104_94 : decode (mB 104) 94 = .ok (.iload_n 3, 1) := by decide +kernel
theorem d104_95 : decode (mB 104) 95 = .ok (.invokevirtual 152, 3) := by decide +kernel
theorem d104_98 : decode (mB 104) 98 = .ok (.ifCond .eq 13, 3) := by decide +kernel
theorem d104_101 : decode (mB 104) 101 = .ok (.iload 4, 2) := by decide +kernel
theorem d104_103 : decode (mB 104) 103 = .ok (.iconst 1, 1) := by decide +kernel
theorem d104_104 : decode (mB 104) 104 = .ok (.iload 5, 2) := by decide +kernel
theorem d104_106 : decode (mB 104) 106 = .ok (.ishl, 1) := by decide +kernel
theorem d104_107 : decode (mB 104) 107 = .ok (.iadd, 1) := by decide +kernel
theorem d104_108 : decode (mB 104) 108 = .ok (.goto 5, 3) := by decide +kernel
theorem d104_111 : decode (mB 104) 111 = .ok (.iload 4, 2) := by decide +kernel
theorem d104_113 : decode (mB 104) 113 = .ok (.istore 4, 2) := by decide +kernel
theorem d104_115 : decode (mB 104) 115 = .ok (.iinc 5 1, 3) := by decide +kernel
theorem d104_118 : decode (mB 104) 118 = .ok (.goto (-33), 3) := by decide +kernel
theorem d104_121 : decode (mB 104) 121 = .ok (.iload 4, 2) := by decide +kernel
theorem d104_123 : decode (mB 104) 123 = .ok (.ireturn, 1) := by decide +kernel
theorem v104_0 (L : Nat) (xs : Nat → Int32) : zVal L xs 104 0 (.inl (i_il 3 1)) := zS_iload_n d104_0 rfl
theorem v104_1 (L : Nat) (xs : Nat → Int32) : zVal L xs 104 1 (.inl (i_c (.int 1) 2)) := zS_iconst d104_1 (by decide)
theorem v104_2 (L : Nat) (xs : Nat → Int32) : zVal L xs 104 2 (.inl (i_f2 (fun x y => decide (x < y)) 11 5)) := zS_icmp_lt d104_2 (by decide)
theorem v104_5 (L : Nat) (xs : Nat → Int32) : zVal L xs 104 5 (.inl (i_il 3 6)) := zS_iload_n d104_5 rfl
theorem v104_6 (L : Nat) (xs : Nat → Int32) : zVal L xs 104 6 (.inl (i_c (.int 8) 8)) := zS_bipush d104_6 (by decide)
theorem v104_8 (L : Nat) (xs : Nat → Int32) : zVal L xs 104 8 (.inl (i_f2 (fun x y => decide (x ≤ y)) 13 11)) := zS_icmp_le d104_8 (by decide)
theorem v104_11 (L : Nat) (xs : Nat → Int32) : zVal L xs 104 11 (.inl (i_k [true, true, true, true, true, true] (i_c (.int (-1)) 12))) := zS_k (zS_iconst d104_11 (by decide))
theorem v104_12 (L : Nat) (xs : Nat → Int32) : zVal L xs 104 12 (.inr (.inr 1)) := zr_1 d104_12 rfl
theorem v104_13 (L : Nat) (xs : Nat → Int32) : zVal L xs 104 13 (.inl (i_c (.int 0) 14)) := zS_iconst d104_13 (by decide)
theorem v104_14 (L : Nat) (xs : Nat → Int32) : zVal L xs 104 14 (.inl (i_is 4 16)) := zS_istore d104_14
theorem v104_16 (L : Nat) (xs : Nat → Int32) : zVal L xs 104 16 (.inl (i_k [false, false, true, false, false, true] (i_il 4 18))) := zS_k (zS_iload d104_16)
theorem v104_18 (L : Nat) (xs : Nat → Int32) : zVal L xs 104 18 (.inl (i_il 3 19)) := zS_iload_n d104_18 rfl
theorem v104_19 (L : Nat) (xs : Nat → Int32) : zVal L xs 104 19 (.inl (i_f2 (fun x y => decide (y ≤ x)) 43 22)) := zS_icmp_ge d104_19 (by decide)
theorem v104_22 (L : Nat) (xs : Nat → Int32) : zVal L xs 104 22 (.inl (i_ll 1 23)) := zS_lload_n d104_22 rfl
theorem v104_23 (L : Nat) (xs : Nat → Int32) : zVal L xs 104 23 (.inl (i_il 3 24)) := zS_iload_n d104_23 rfl
theorem v104_24 (L : Nat) (xs : Nat → Int32) : zVal L xs 104 24 (.inl (i_il 4 26)) := zS_iload d104_24
theorem v104_26 (L : Nat) (xs : Nat → Int32) : zVal L xs 104 26 (.inr (.inl (97, 3, 0))) := ⟨by decide +kernel, by decide +kernel, zc_static d104_26 w934 w932 w933 w85 ⟨by decide +kernel, by decide +kernel, by decide +kernel⟩ (by decide) (by decide)⟩
theorem v104_29 (L : Nat) (xs : Nat → Int32) : zVal L xs 104 29 (.inr (.inl (95, 1, 0))) := ⟨by decide +kernel, by decide +kernel, zc_static d104_29 w924 w922 w923 w85 ⟨by decide +kernel, by decide +kernel, by decide +kernel⟩ (by decide) (by decide)⟩
theorem v104_32 (L : Nat) (xs : Nat → Int32) : zVal L xs 104 32 (.inl (i_f1 (fun x => decide (¬ x = 0)) 37 35)) := zS_if_ne d104_32 (by decide)
theorem v104_35 (L : Nat) (xs : Nat → Int32) : zVal L xs 104 35 (.inl (i_c (.int (-1)) 36)) := zS_iconst d104_35 (by decide)
theorem v104_36 (L : Nat) (xs : Nat → Int32) : zVal L xs 104 36 (.inr (.inr 1)) := zr_1 d104_36 rfl
theorem v104_37 (L : Nat) (xs : Nat → Int32) : zVal L xs 104 37 (.inl (i_in 4 1 40)) := zS_iinc d104_37 (by decide)
theorem v104_40 (L : Nat) (xs : Nat → Int32) : zVal L xs 104 40 (.inl (i_go 16)) := zS_goto d104_40 (by decide)
theorem v104_43 (L : Nat) (xs : Nat → Int32) : zVal L xs 104 43 (.inl (i_c (.int 0) 44)) := zS_iconst d104_43 (by decide)
theorem v104_44 (L : Nat) (xs : Nat → Int32) : zVal L xs 104 44 (.inl (i_is 4 46)) := zS_istore d104_44
theorem v104_46 (L : Nat) (xs : Nat → Int32) : zVal L xs 104 46 (.inl (i_k [false, false, true, false, false, true] (i_il 4 48))) := zS_k (zS_iload d104_46)
theorem v104_48 (L : Nat) (xs : Nat → Int32) : zVal L xs 104 48 (.inl (i_il 3 49)) := zS_iload_n d104_48 rfl
theorem v104_49 (L : Nat) (xs : Nat → Int32) : zVal L xs 104 49 (.inl (i_f2 (fun x y => decide (y ≤ x)) 74 52)) := zS_icmp_ge d104_49 (by decide)
theorem v104_52 (L : Nat) (xs : Nat → Int32) : zVal L xs 104 52 (.inl (i_al 0 53)) := zS_aload_n d104_52 rfl
theorem v104_53 (L : Nat) (xs : Nat → Int32) : zVal L xs 104 53 (.inl (i_gf 10 9 56)) := zS_getf d104_53 (zcl10) (by decide) zi10 w787
theorem v104_56 (L : Nat) (xs : Nat → Int32) : zVal L xs 104 56 (.inl (i_c (.int 1) 57)) := zS_iconst d104_56 (by decide)
theorem v104_57 (L : Nat) (xs : Nat → Int32) : zVal L xs 104 57 (.inl (i_il 4 59)) := zS_iload d104_57
theorem v104_59 (L : Nat) (xs : Nat → Int32) : zVal L xs 104 59 (.inl (i_bi (fun x y => x + y) 60)) := zS_iadd d104_59
theorem v104_60 (L : Nat) (xs : Nat → Int32) : zVal L xs 104 60 (.inl (i_ll 1 61)) := zS_lload_n d104_60 rfl
theorem v104_61 (L : Nat) (xs : Nat → Int32) : zVal L xs 104 61 (.inl (i_il 3 62)) := zS_iload_n d104_61 rfl
theorem v104_62 (L : Nat) (xs : Nat → Int32) : zVal L xs 104 62 (.inl (i_il 4 64)) := zS_iload d104_62
theorem v104_64 (L : Nat) (xs : Nat → Int32) : zVal L xs 104 64 (.inr (.inl (97, 3, 0))) := ⟨by decide +kernel, by decide +kernel, zc_static d104_64 w934 w932 w933 w85 ⟨by decide +kernel, by decide +kernel, by decide +kernel⟩ (by decide) (by decide)⟩
theorem v104_67 (L : Nat) (xs : Nat → Int32) : zVal L xs 104 67 (.inl (i_pa 0 (fun x => x) 68)) := zS_iast d104_67
theorem v104_68 (L : Nat) (xs : Nat → Int32) : zVal L xs 104 68 (.inl (i_in 4 1 71)) := zS_iinc d104_68 (by decide)
theorem v104_71 (L : Nat) (xs : Nat → Int32) : zVal L xs 104 71 (.inl (i_go 46)) := zS_goto d104_71 (by decide)
theorem v104_74 (L : Nat) (xs : Nat → Int32) : zVal L xs 104 74 (.inl (i_al 0 75)) := zS_aload_n d104_74 rfl
theorem v104_75 (L : Nat) (xs : Nat → Int32) : zVal L xs 104 75 (.inl (i_il 3 76)) := zS_iload_n d104_75 rfl
theorem v104_76 (L : Nat) (xs : Nat → Int32) : zVal L xs 104 76 (.inr (.inl (102, 2, 11))) := ⟨by decide +kernel, by decide +kernel, zc_virt d104_76 zcl10 w947 w944 w946 w36 w85 ⟨by decide +kernel, by decide +kernel, by decide +kernel⟩ (by decide) (by decide)⟩
theorem v104_79 (L : Nat) (xs : Nat → Int32) : zVal L xs 104 79 (.inl (i_c (.int 0) 80)) := zS_iconst d104_79 (by decide)
theorem v104_80 (L : Nat) (xs : Nat → Int32) : zVal L xs 104 80 (.inl (i_is 4 82)) := zS_istore d104_80
theorem v104_82 (L : Nat) (xs : Nat → Int32) : zVal L xs 104 82 (.inl (i_c (.int 1) 83)) := zS_iconst d104_82 (by decide)
theorem v104_83 (L : Nat) (xs : Nat → Int32) : zVal L xs 104 83 (.inl (i_is 5 85)) := zS_istore d104_83
theorem v104_85 (L : Nat) (xs : Nat → Int32) : zVal L xs 104 85 (.inl (i_k [false, true, true, false, false, false] (i_il 5 87))) := zS_k (zS_iload d104_85)
theorem v104_87 (L : Nat) (xs : Nat → Int32) : zVal L xs 104 87 (.inl (i_il 3 88)) := zS_iload_n d104_87 rfl
theorem v104_88 (L : Nat) (xs : Nat → Int32) : zVal L xs 104 88 (.inl (i_f2 (fun x y => decide (y ≤ x)) 121 91)) := zS_icmp_ge d104_88 (by decide)
theorem v104_91 (L : Nat) (xs : Nat → Int32) : zVal L xs 104 91 (.inl (i_al 0 92)) := zS_aload_n d104_91 rfl
theorem v104_92 (L : Nat) (xs : Nat → Int32) : zVal L xs 104 92 (.inl (i_il 5 94)) := zS_iload d104_92
theorem v104_94 (L : Nat) (xs : Nat → Int32) : zVal L xs 104 94 (.inl (i_il 3 95)) := zS_iload_n d104_94 rfl
theorem v104_95 (L : Nat) (xs : Nat → Int32) : zVal L xs 104 95 (.inr (.inl (103, 3, 11))) := ⟨by decide +kernel, by decide +kernel, zc_virt d104_95 zcl10 w955 w952 w954 w38 w85 ⟨by decide +kernel, by decide +kernel, by decide +kernel⟩ (by decide) (by decide)⟩
theorem v104_98 (L : Nat) (xs : Nat → Int32) : zVal L xs 104 98 (.inl (i_f1 (fun x => decide (x = 0)) 111 101)) := zS_if_eq d104_98 (by decide)
theorem v104_101 (L : Nat) (xs : Nat → Int32) : zVal L xs 104 101 (.inl (i_il 4 103)) := zS_iload d104_101
theorem v104_103 (L : Nat) (xs : Nat → Int32) : zVal L xs 104 103 (.inl (i_c (.int 1) 104)) := zS_iconst d104_103 (by decide)
theorem v104_104 (L : Nat) (xs : Nat → Int32) : zVal L xs 104 104 (.inl (i_il 5 106)) := zS_iload d104_104
theorem v104_106 (L : Nat) (xs : Nat → Int32) : zVal L xs 104 106 (.inl (i_bi (fun x y => x <<< (y &&& 31)) 107)) := zS_ishl d104_106
theorem v104_107 (L : Nat) (xs : Nat → Int32) : zVal L xs 104 107 (.inl (i_bi (fun x y => x + y) 108)) := zS_iadd d104_107
theorem v104_108 (L : Nat) (xs : Nat → Int32) : zVal L xs 104 108 (.inl (i_go 113)) := zS_goto d104_108 (by decide)
theorem v104_111 (L : Nat) (xs : Nat → Int32) : zVal L xs 104 111 (.inl (i_il 4 113)) := zS_iload d104_111
theorem v104_113 (L : Nat) (xs : Nat → Int32) : zVal L xs 104 113 (.inl (i_k [false, true, true, false, true, false] (i_is 4 115))) := zS_k (zS_istore d104_113)
theorem v104_115 (L : Nat) (xs : Nat → Int32) : zVal L xs 104 115 (.inl (i_in 5 1 118)) := zS_iinc d104_115 (by decide)
theorem v104_118 (L : Nat) (xs : Nat → Int32) : zVal L xs 104 118 (.inl (i_go 85)) := zS_goto d104_118 (by decide)
theorem v104_121 (L : Nat) (xs : Nat → Int32) : zVal L xs 104 121 (.inl (i_il 4 123)) := zS_iload d104_121
theorem v104_123 (L : Nat) (xs : Nat → Int32) : zVal L xs 104 123 (.inr (.inr 1)) := zr_1 d104_123 rfl
theorem vt104 (L : Nat) (xs : Nat → Int32) : zAll (fun x => zVal L xs 104 x.1 x.2) (tb104) := ⟨v104_0 L xs, v104_1 L xs, v104_2 L xs, v104_5 L xs, v104_6 L xs, v104_8 L xs, v104_11 L xs, v104_12 L xs, v104_13 L xs, v104_14 L xs, v104_16 L xs, v104_18 L xs, v104_19 L xs, v104_22 L xs, v104_23 L xs, v104_24 L xs, v104_26 L xs, v104_29 L xs, v104_32 L xs, v104_35 L xs, v104_36 L xs, v104_37 L xs, v104_40 L xs, v104_43 L xs, v104_44 L xs, v104_46 L xs, v104_48 L xs, v104_49 L xs, v104_52 L xs, v104_53 L xs, v104_56 L xs, v104_57 L xs, v104_59 L xs, v104_60 L xs, v104_61 L xs, v104_62 L xs, v104_64 L xs, v104_67 L xs, v104_68 L xs, v104_71 L xs, v104_74 L xs, v104_75 L xs, v104_76 L xs, v104_79 L xs, v104_80 L xs, v104_82 L xs, v104_83 L xs, v104_85 L xs, v104_87 L xs, v104_88 L xs, v104_91 L xs, v104_92 L xs, v104_94 L xs, v104_95 L xs, v104_98 L xs, v104_101 L xs, v104_103 L xs, v104_104 L xs, v104_106 L xs, v104_107 L xs, v104_108 L xs, v104_111 L xs, v104_113 L xs, v104_115 L xs, v104_118 L xs, v104_121 L xs, v104_123 L xs, trivial⟩
theorem d105_0 : decode (mB 105) 0 = .ok (.iload_n 3, 1) := by decide +kernel
theorem d105_1 : decode (mB 105) 1 = .ok (.iconst 1, 1) := by decide +kernel
theorem d105_2 : decode (mB 105) 2 = .ok (.if_icmp .lt 9, 3) := by decide +kernel
theorem d105_5 : decode (mB 105) 5 = .ok (.iload_n 3, 1) := by decide +kernel
theorem d105_6 : decode (mB 105) 6 = .ok (.bipush 8, 2) := by decide +kernel
theorem d105_8 : decode (mB 105) 8 = .ok (.if_icmp .le 5, 3) := by decide +kernel
theorem d105_11 : decode (mB 105) 11 = .ok (.iconst (-1), 1) := by decide +kernel
theorem d105_12 : decode (mB 105) 12 = .ok (.ireturn, 1) := by decide +kernel
theorem d105_13 : decode (mB 105) 13 = .ok (.iconst 0, 1) := by decide +kernel
theorem d105_14 : decode (mB 105) 14 = .ok (.istore 4, 2) := by decide +kernel
theorem d105_16 : decode (mB 105) 16 = .ok (.iload 4, 2) := by decide +kernel
theorem d105_18 : decode (mB 105) 18 = .ok (.iload_n 3, 1) := by decide +kernel
theorem d105_19 : decode (mB 105) 19 = .ok (.if_icmp .ge 41, 3) := by decide +kernel
theorem d105_22 : decode (mB 105) 22 = .ok (.lload_n 1, 1) := by decide +kernel
theorem d105_23 : decode (mB 105) 23 = .ok (.iload_n 3, 1) := by decide +kernel
theorem d105_24 : decode (mB 105) 24 = .ok (.iload 4, 2) := by decide +kernel
theorem d105_26 : decode (mB 105) 26 = .ok (.invokestatic 129, 3) := by decide +kernel
theorem d105_29 : decode (mB 105) 29 = .ok (.istore 5, 2) := by decide +kernel
theorem d105_31 : decode (mB 105) 31 = .ok (.iload 5, 2) := by decide +kernel
theorem d105_33 : decode (mB 105) 33 = .ok (.bipush 10, 2) := by decide +kernel
theorem d105_35 : decode (mB 105) 35 = .ok (.if_icmp .eq 19, 3) := by decide +kernel
theorem d105_38 : decode (mB 105) 38 = .ok (.iload 5, 2) := by decide +kernel
theorem d105_40 : decode (mB 105) 40 = .ok (.bipush 32, 2) := by decide +kernel
theorem d105_42 : decode (mB 105) 42 = .ok (.if_icmp .lt 10, 3) := by decide +kernel
theorem d105_45 : decode (mB 105) 45 = .ok (.iload 5, 2) := by decide +kernel
theorem d105_47 : decode (mB 105) 47 = .ok (.bipush 126, 2) := by decide +kernel
theorem d105_49 : decode (mB 105) 49 = .ok (.if_icmp .le 5, 3) := by decide +kernel
theorem d105_52 : decode (mB 105) 52 = .ok (.iconst (-1), 1) := by decide +kernel
theorem d105_53 : decode (mB 105) 53 = .ok (.ireturn, 1) := by decide +kernel
theorem d105_54 : decode (mB 105) 54 = .ok (.iinc 4 1, 3) := by decide +kernel
theorem d105_57 : decode (mB 105) 57 = .ok (.goto (-41), 3) := by decide +kernel
theorem d105_60 : decode (mB 105) 60 = .ok (.aload_n 0, 1) := by decide +kernel
theorem d105_61 : decode (mB 105) 61 = .ok (.getfield 156, 3) := by decide +kernel
theorem d105_64 : decode (mB 105) 64 = .ok (.iload_n 3, 1) := by decide +kernel
theorem d105_65 : decode (mB 105) 65 = .ok (.iadd, 1) := by decide +kernel
theorem d105_66 : decode (mB 105) 66 = .ok (.sipush 480, 3) := by decide +kernel
theorem d105_69 : decode (mB 105) 69 = .ok (.if_icmp .le 6, 3) := by decide +kernel
theorem d105_72 : decode (mB 105) 72 = .ok (.bipush (-2), 2) := by decide +kernel
theorem d105_74 : decode (mB 105) 74 = .ok (.ireturn, 1) := by decide +kernel
theorem d105_75 : decode (mB 105) 75 = .ok (.iconst 0, 1) := by decide +kernel
theorem d105_76 : decode (mB 105) 76 = .ok (.istore 4, 2) := by decide +kernel
theorem d105_78 : decode (mB 105) 78 = .ok (.iload 4, 2) := by decide +kernel
theorem d105_80 : decode (mB 105) 80 = .ok (.iload_n 3, 1) := by decide +kernel
theorem d105_81 : decode (mB 105) 81 = .ok (.if_icmp .ge 35, 3) := by decide +kernel
theorem d105_84 : decode (mB 105) 84 = .ok (.aload_n 0, 1) := by decide +kernel
theorem d105_85 : decode (mB 105) 85 = .ok (.getfield 31, 3) := by decide +kernel
theorem d105_88 : decode (mB 105) 88 = .ok (.aload_n 0, 1) := by decide +kernel
theorem d105_89 : decode (mB 105) 89 = .ok (.getfield 156, 3) := by decide +kernel
theorem d105_92 : decode (mB 105) 92 = .ok (.lload_n 1, 1) := by decide +kernel
theorem d105_93 : decode (mB 105) 93 = .ok (.iload_n 3, 1) := by decide +kernel
theorem d105_94 : decode (mB 105) 94 = .ok (.iload 4, 2) := by decide +kernel
theorem d105_96 : decode (mB 105) 96 = .ok (.invokestatic 129, 3) := by decide +kernel
theorem d105_99 : decode (mB 105) 99 = .ok (.iastore, 1) := by decide +kernel
theorem d105_100 : decode (mB 105) 100 = .ok (.aload_n 0, 1) := by decide +kernel
theorem d105_101 : decode (mB 105) 101 = .ok (.dup, 1) := by decide +kernel
theorem d105_102 : decode (mB 105) 102 = .ok (.getfield 156, 3) := by decide +kernel
theorem d105_105 : decode (mB 105) 105 = .ok (.iconst 1, 1) := by decide +kernel
theorem d105_106 : decode (mB 105) 106 = .ok (.iadd, 1) := by decide +kernel
theorem d105_107 : decode (mB 105) 107 = .ok (.putfield 156, 3) := by decide +kernel
theorem d105_110 : decode (mB 105) 110 = .ok (.iinc 4 1, 3) := by decide +kernel
theorem d105_113 : decode (mB 105) 113 = .ok (.goto (-35), 3) := by decide +kernel
theorem d105_116 : decode (mB 105) 116 = .ok (.aload_n 0, 1) := by decide +kernel
theorem d105_117 : decode (mB 105) 117 = .ok (.getfield 156, 3) := by decide +kernel
theorem d105_120 : decode (mB 105) 120 = .ok (.ireturn, 1) := by decide +kernel
theorem v105_0 (L : Nat) (xs : Nat → Int32) : zVal L xs 105 0 (.inl (i_il 3 1)) := zS_iload_n d105_0 rfl
theorem v105_1 (L : Nat) (xs : Nat → Int32) : zVal L xs 105 1 (.inl (i_c (.int 1) 2)) := zS_iconst d105_1 (by decide)
theorem v105_2 (L : Nat) (xs : Nat → Int32) : zVal L xs 105 2 (.inl (i_f2 (fun x y => decide (x < y)) 11 5)) := zS_icmp_lt d105_2 (by decide)
theorem v105_5 (L : Nat) (xs : Nat → Int32) : zVal L xs 105 5 (.inl (i_il 3 6)) := zS_iload_n d105_5 rfl
theorem v105_6 (L : Nat) (xs : Nat → Int32) : zVal L xs 105 6 (.inl (i_c (.int 8) 8)) := zS_bipush d105_6 (by decide)
theorem v105_8 (L : Nat) (xs : Nat → Int32) : zVal L xs 105 8 (.inl (i_f2 (fun x y => decide (x ≤ y)) 13 11)) := zS_icmp_le d105_8 (by decide)
theorem v105_11 (L : Nat) (xs : Nat → Int32) : zVal L xs 105 11 (.inl (i_k [true, true, true, true, true, true] (i_c (.int (-1)) 12))) := zS_k (zS_iconst d105_11 (by decide))
theorem v105_12 (L : Nat) (xs : Nat → Int32) : zVal L xs 105 12 (.inr (.inr 1)) := zr_1 d105_12 rfl
theorem v105_13 (L : Nat) (xs : Nat → Int32) : zVal L xs 105 13 (.inl (i_c (.int 0) 14)) := zS_iconst d105_13 (by decide)
theorem v105_14 (L : Nat) (xs : Nat → Int32) : zVal L xs 105 14 (.inl (i_is 4 16)) := zS_istore d105_14
theorem v105_16 (L : Nat) (xs : Nat → Int32) : zVal L xs 105 16 (.inl (i_k [false, false, true, false, false, true] (i_il 4 18))) := zS_k (zS_iload d105_16)
theorem v105_18 (L : Nat) (xs : Nat → Int32) : zVal L xs 105 18 (.inl (i_il 3 19)) := zS_iload_n d105_18 rfl
theorem v105_19 (L : Nat) (xs : Nat → Int32) : zVal L xs 105 19 (.inl (i_f2 (fun x y => decide (y ≤ x)) 60 22)) := zS_icmp_ge d105_19 (by decide)
theorem v105_22 (L : Nat) (xs : Nat → Int32) : zVal L xs 105 22 (.inl (i_ll 1 23)) := zS_lload_n d105_22 rfl
theorem v105_23 (L : Nat) (xs : Nat → Int32) : zVal L xs 105 23 (.inl (i_il 3 24)) := zS_iload_n d105_23 rfl
theorem v105_24 (L : Nat) (xs : Nat → Int32) : zVal L xs 105 24 (.inl (i_il 4 26)) := zS_iload d105_24
theorem v105_26 (L : Nat) (xs : Nat → Int32) : zVal L xs 105 26 (.inr (.inl (97, 3, 0))) := ⟨by decide +kernel, by decide +kernel, zc_static d105_26 w934 w932 w933 w85 ⟨by decide +kernel, by decide +kernel, by decide +kernel⟩ (by decide) (by decide)⟩
theorem v105_29 (L : Nat) (xs : Nat → Int32) : zVal L xs 105 29 (.inl (i_is 5 31)) := zS_istore d105_29
theorem v105_31 (L : Nat) (xs : Nat → Int32) : zVal L xs 105 31 (.inl (i_il 5 33)) := zS_iload d105_31
theorem v105_33 (L : Nat) (xs : Nat → Int32) : zVal L xs 105 33 (.inl (i_c (.int 10) 35)) := zS_bipush d105_33 (by decide)
theorem v105_35 (L : Nat) (xs : Nat → Int32) : zVal L xs 105 35 (.inl (i_f2 (fun x y => decide (x = y)) 54 38)) := zS_icmp_eq d105_35 (by decide)
theorem v105_38 (L : Nat) (xs : Nat → Int32) : zVal L xs 105 38 (.inl (i_il 5 40)) := zS_iload d105_38
theorem v105_40 (L : Nat) (xs : Nat → Int32) : zVal L xs 105 40 (.inl (i_c (.int 32) 42)) := zS_bipush d105_40 (by decide)
theorem v105_42 (L : Nat) (xs : Nat → Int32) : zVal L xs 105 42 (.inl (i_f2 (fun x y => decide (x < y)) 52 45)) := zS_icmp_lt d105_42 (by decide)
theorem v105_45 (L : Nat) (xs : Nat → Int32) : zVal L xs 105 45 (.inl (i_il 5 47)) := zS_iload d105_45
theorem v105_47 (L : Nat) (xs : Nat → Int32) : zVal L xs 105 47 (.inl (i_c (.int 126) 49)) := zS_bipush d105_47 (by decide)
theorem v105_49 (L : Nat) (xs : Nat → Int32) : zVal L xs 105 49 (.inl (i_f2 (fun x y => decide (x ≤ y)) 54 52)) := zS_icmp_le d105_49 (by decide)
theorem v105_52 (L : Nat) (xs : Nat → Int32) : zVal L xs 105 52 (.inl (i_k [true, true, true, true, true, true] (i_c (.int (-1)) 53))) := zS_k (zS_iconst d105_52 (by decide))
theorem v105_53 (L : Nat) (xs : Nat → Int32) : zVal L xs 105 53 (.inr (.inr 1)) := zr_1 d105_53 rfl
theorem v105_54 (L : Nat) (xs : Nat → Int32) : zVal L xs 105 54 (.inl (i_k [false, false, true, false, false, true] (i_in 4 1 57))) := zS_k (zS_iinc d105_54 (by decide))
theorem v105_57 (L : Nat) (xs : Nat → Int32) : zVal L xs 105 57 (.inl (i_go 16)) := zS_goto d105_57 (by decide)
theorem v105_60 (L : Nat) (xs : Nat → Int32) : zVal L xs 105 60 (.inl (i_al 0 61)) := zS_aload_n d105_60 rfl
theorem v105_61 (L : Nat) (xs : Nat → Int32) : zVal L xs 105 61 (.inl (i_gf 10 12 64)) := zS_getf d105_61 (zcl10) (by decide) zi10 w790
theorem v105_64 (L : Nat) (xs : Nat → Int32) : zVal L xs 105 64 (.inl (i_il 3 65)) := zS_iload_n d105_64 rfl
theorem v105_65 (L : Nat) (xs : Nat → Int32) : zVal L xs 105 65 (.inl (i_bi (fun x y => x + y) 66)) := zS_iadd d105_65
theorem v105_66 (L : Nat) (xs : Nat → Int32) : zVal L xs 105 66 (.inl (i_c (.int 480) 69)) := zS_sipush d105_66 (by decide)
theorem v105_69 (L : Nat) (xs : Nat → Int32) : zVal L xs 105 69 (.inl (i_f2 (fun x y => decide (x ≤ y)) 75 72)) := zS_icmp_le d105_69 (by decide)
theorem v105_72 (L : Nat) (xs : Nat → Int32) : zVal L xs 105 72 (.inl (i_c (.int (-2)) 74)) := zS_bipush d105_72 (by decide)
theorem v105_74 (L : Nat) (xs : Nat → Int32) : zVal L xs 105 74 (.inr (.inr 1)) := zr_1 d105_74 rfl
theorem v105_75 (L : Nat) (xs : Nat → Int32) : zVal L xs 105 75 (.inl (i_c (.int 0) 76)) := zS_iconst d105_75 (by decide)
theorem v105_76 (L : Nat) (xs : Nat → Int32) : zVal L xs 105 76 (.inl (i_is 4 78)) := zS_istore d105_76
theorem v105_78 (L : Nat) (xs : Nat → Int32) : zVal L xs 105 78 (.inl (i_k [false, false, true, false, false, true] (i_il 4 80))) := zS_k (zS_iload d105_78)
theorem v105_80 (L : Nat) (xs : Nat → Int32) : zVal L xs 105 80 (.inl (i_il 3 81)) := zS_iload_n d105_80 rfl
theorem v105_81 (L : Nat) (xs : Nat → Int32) : zVal L xs 105 81 (.inl (i_f2 (fun x y => decide (y ≤ x)) 116 84)) := zS_icmp_ge d105_81 (by decide)
theorem v105_84 (L : Nat) (xs : Nat → Int32) : zVal L xs 105 84 (.inl (i_al 0 85)) := zS_aload_n d105_84 rfl
theorem v105_85 (L : Nat) (xs : Nat → Int32) : zVal L xs 105 85 (.inl (i_gf 10 11 88)) := zS_getf d105_85 (zcl10) (by decide) zi10 w789
theorem v105_88 (L : Nat) (xs : Nat → Int32) : zVal L xs 105 88 (.inl (i_al 0 89)) := zS_aload_n d105_88 rfl
theorem v105_89 (L : Nat) (xs : Nat → Int32) : zVal L xs 105 89 (.inl (i_gf 10 12 92)) := zS_getf d105_89 (zcl10) (by decide) zi10 w790
theorem v105_92 (L : Nat) (xs : Nat → Int32) : zVal L xs 105 92 (.inl (i_ll 1 93)) := zS_lload_n d105_92 rfl
theorem v105_93 (L : Nat) (xs : Nat → Int32) : zVal L xs 105 93 (.inl (i_il 3 94)) := zS_iload_n d105_93 rfl
theorem v105_94 (L : Nat) (xs : Nat → Int32) : zVal L xs 105 94 (.inl (i_il 4 96)) := zS_iload d105_94
theorem v105_96 (L : Nat) (xs : Nat → Int32) : zVal L xs 105 96 (.inr (.inl (97, 3, 0))) := ⟨by decide +kernel, by decide +kernel, zc_static d105_96 w934 w932 w933 w85 ⟨by decide +kernel, by decide +kernel, by decide +kernel⟩ (by decide) (by decide)⟩
theorem v105_99 (L : Nat) (xs : Nat → Int32) : zVal L xs 105 99 (.inl (i_pa 0 (fun x => x) 100)) := zS_iast d105_99
theorem v105_100 (L : Nat) (xs : Nat → Int32) : zVal L xs 105 100 (.inl (i_al 0 101)) := zS_aload_n d105_100 rfl
theorem v105_101 (L : Nat) (xs : Nat → Int32) : zVal L xs 105 101 (.inl (i_dup 102)) := zS_dup d105_101
theorem v105_102 (L : Nat) (xs : Nat → Int32) : zVal L xs 105 102 (.inl (i_gf 10 12 105)) := zS_getf d105_102 (zcl10) (by decide) zi10 w790
theorem v105_105 (L : Nat) (xs : Nat → Int32) : zVal L xs 105 105 (.inl (i_c (.int 1) 106)) := zS_iconst d105_105 (by decide)
theorem v105_106 (L : Nat) (xs : Nat → Int32) : zVal L xs 105 106 (.inl (i_bi (fun x y => x + y) 107)) := zS_iadd d105_106
theorem v105_107 (L : Nat) (xs : Nat → Int32) : zVal L xs 105 107 (.inl (i_pf 10 12 okI 110)) := zS_putf (ty := .int) d105_107 (zcl10) (by decide) zi10 w790 zy10 zn10 (by decide +kernel) (by decide +kernel) okI_ok
theorem v105_110 (L : Nat) (xs : Nat → Int32) : zVal L xs 105 110 (.inl (i_in 4 1 113)) := zS_iinc d105_110 (by decide)
theorem v105_113 (L : Nat) (xs : Nat → Int32) : zVal L xs 105 113 (.inl (i_go 78)) := zS_goto d105_113 (by decide)
theorem v105_116 (L : Nat) (xs : Nat → Int32) : zVal L xs 105 116 (.inl (i_al 0 117)) := zS_aload_n d105_116 rfl
theorem v105_117 (L : Nat) (xs : Nat → Int32) : zVal L xs 105 117 (.inl (i_gf 10 12 120)) := zS_getf d105_117 (zcl10) (by decide) zi10 w790
theorem v105_120 (L : Nat) (xs : Nat → Int32) : zVal L xs 105 120 (.inr (.inr 1)) := zr_1 d105_120 rfl
theorem vt105 (L : Nat) (xs : Nat → Int32) : zAll (fun x => zVal L xs 105 x.1 x.2) (tb105) := ⟨v105_0 L xs, v105_1 L xs, v105_2 L xs, v105_5 L xs, v105_6 L xs, v105_8 L xs, v105_11 L xs, v105_12 L xs, v105_13 L xs, v105_14 L xs, v105_16 L xs, v105_18 L xs, v105_19 L xs, v105_22 L xs, v105_23 L xs, v105_24 L xs, v105_26 L xs, v105_29 L xs, v105_31 L xs, v105_33 L xs, v105_35 L xs, v105_38 L xs, v105_40 L xs, v105_42 L xs, v105_45 L xs, v105_47 L xs, v105_49 L xs, v105_52 L xs, v105_53 L xs, v105_54 L xs, v105_57 L xs, v105_60 L xs, v105_61 L xs, v105_64 L xs, v105_65 L xs, v105_66 L xs, v105_69 L xs, v105_72 L xs, v105_74 L xs, v105_75 L xs, v105_76 L xs, v105_78 L xs, v105_80 L xs, v105_81 L xs, v105_84 L xs, v105_85 L xs, v105_88 L xs, v105_89 L xs, v105_92 L xs, v105_93 L xs, v105_94 L xs, v105_96 L xs, v105_99 L xs, v105_100 L xs, v105_101 L xs, v105_102 L xs, v105_105 L xs, v105_106 L xs, v105_107 L xs, v105_110 L xs, v105_113 L xs, v105_116 L xs, v105_117 L xs, v105_120 L xs, trivial⟩
theorem d106_0 : decode (mB 106) 0 = .ok (.aload_n 0, 1) := by decide +kernel
theorem d106_1 : decode (mB 106) 1 = .ok (.getfield 156, 3) := by decide +kernel
theorem d106_4 : decode (mB 106) 4 = .ok (.istore_n 1, 1) := by decide +kernel
theorem d106_5 : decode (mB 106) 5 = .ok (.aload_n 0, 1) := by decide +kernel
theorem d106_6 : decode (mB 106) 6 = .ok (.iconst 0, 1) := by decide +kernel
theorem d106_7 : decode (mB 106) 7 = .ok (.putfield 156, 3) := by decide +kernel
theorem d106_10 : decode (mB 106) 10 = .ok (.iload_n 1, 1) := by decide +kernel
theorem d106_11 : decode (mB 106) 11 = .ok (.ireturn, 1) := by decide +kernel
theorem v106_0 (L : Nat) (xs : Nat → Int32) : zVal L xs 106 0 (.inl (i_al 0 1)) := zS_aload_n d106_0 rfl
theorem v106_1 (L : Nat) (xs : Nat → Int32) : zVal L xs 106 1 (.inl (i_gf 10 12 4)) := zS_getf d106_1 (zcl10) (by decide) zi10 w790
theorem v106_4 (L : Nat) (xs : Nat → Int32) : zVal L xs 106 4 (.inl (i_is 1 5)) := zS_istore_n d106_4 rfl
theorem v106_5 (L : Nat) (xs : Nat → Int32) : zVal L xs 106 5 (.inl (i_al 0 6)) := zS_aload_n d106_5 rfl
theorem v106_6 (L : Nat) (xs : Nat → Int32) : zVal L xs 106 6 (.inl (i_c (.int 0) 7)) := zS_iconst d106_6 (by decide)
theorem v106_7 (L : Nat) (xs : Nat → Int32) : zVal L xs 106 7 (.inl (i_pf 10 12 okI 10)) := zS_putf (ty := .int) d106_7 (zcl10) (by decide) zi10 w790 zy10 zn10 (by decide +kernel) (by decide +kernel) okI_ok
theorem v106_10 (L : Nat) (xs : Nat → Int32) : zVal L xs 106 10 (.inl (i_il 1 11)) := zS_iload_n d106_10 rfl
theorem v106_11 (L : Nat) (xs : Nat → Int32) : zVal L xs 106 11 (.inr (.inr 1)) := zr_1 d106_11 rfl
theorem vt106 (L : Nat) (xs : Nat → Int32) : zAll (fun x => zVal L xs 106 x.1 x.2) (tb106) := ⟨v106_0 L xs, v106_1 L xs, v106_4 L xs, v106_5 L xs, v106_6 L xs, v106_7 L xs, v106_10 L xs, v106_11 L xs, trivial⟩
theorem d107_0 : decode (mB 107) 0 = .ok (.aload_n 0, 1) := by decide +kernel
theorem d107_1 : decode (mB 107) 1 = .ok (.getfield 159, 3) := by decide +kernel
theorem d107_4 : decode (mB 107) 4 = .ok (.aload_n 0, 1) := by decide +kernel
theorem d107_5 : decode (mB 107) 5 = .ok (.getfield 156, 3) := by decide +kernel
theorem d107_8 : decode (mB 107) 8 = .ok (.if_icmp .ge 15, 3) := by decide +kernel
theorem d107_11 : decode (mB 107) 11 = .ok (.aload_n 0, 1) := by decide +kernel
theorem d107_12 : decode (mB 107) 12 = .ok (.getfield 31, 3) := by decide +kernel
theorem d107_15 : decode (mB 107) 15 = .ok (.aload_n 0, 1) := by decide +kernel
theorem d107_16 : decode (mB 107) 16 = .ok (.getfield 159, 3) := by decide +kernel
theorem d107_19 : decode (mB 107) 19 = .ok (.iaload, 1) := by decide +kernel
theorem d107_20 : decode (mB 107) 20 = .ok (.goto 4, 3) := by decide +kernel
theorem d107_23 : decode (mB 107) 23 = .ok (.iconst 0, 1) := by decide +kernel
theorem d107_24 : decode (mB 107) 24 = .ok (.ireturn, 1) := by decide +kernel
theorem v107_0 (L : Nat) (xs : Nat → Int32) : zVal L xs 107 0 (.inl (i_al 0 1)) := zS_aload_n d107_0 rfl
theorem v107_1 (L : Nat) (xs : Nat → Int32) : zVal L xs 107 1 (.inl (i_gf 10 22 4)) := zS_getf d107_1 (zcl10) (by decide) zi10 w800
theorem v107_4 (L : Nat) (xs : Nat → Int32) : zVal L xs 107 4 (.inl (i_al 0 5)) := zS_aload_n d107_4 rfl
theorem v107_5 (L : Nat) (xs : Nat → Int32) : zVal L xs 107 5 (.inl (i_gf 10 12 8)) := zS_getf d107_5 (zcl10) (by decide) zi10 w790
theorem v107_8 (L : Nat) (xs : Nat → Int32) : zVal L xs 107 8 (.inl (i_f2 (fun x y => decide (y ≤ x)) 23 11)) := zS_icmp_ge d107_8 (by decide)
theorem v107_11 (L : Nat) (xs : Nat → Int32) : zVal L xs 107 11 (.inl (i_al 0 12)) := zS_aload_n d107_11 rfl
theorem v107_12 (L : Nat) (xs : Nat → Int32) : zVal L xs 107 12 (.inl (i_gf 10 11 15)) := zS_getf d107_12 (zcl10) (by decide) zi10 w789
theorem v107_15 (L : Nat) (xs : Nat → Int32) : zVal L xs 107 15 (.inl (i_al 0 16)) := zS_aload_n d107_15 rfl
theorem v107_16 (L : Nat) (xs : Nat → Int32) : zVal L xs 107 16 (.inl (i_gf 10 22 19)) := zS_getf d107_16 (zcl10) (by decide) zi10 w800
theorem v107_19 (L : Nat) (xs : Nat → Int32) : zVal L xs 107 19 (.inl (i_ga 0 20)) := zS_iald d107_19
theorem v107_20 (L : Nat) (xs : Nat → Int32) : zVal L xs 107 20 (.inl (i_go 24)) := zS_goto d107_20 (by decide)
theorem v107_23 (L : Nat) (xs : Nat → Int32) : zVal L xs 107 23 (.inl (i_c (.int 0) 24)) := zS_iconst d107_23 (by decide)
theorem v107_24 (L : Nat) (xs : Nat → Int32) : zVal L xs 107 24 (.inr (.inr 1)) := zr_1 d107_24 rfl
theorem vt107 (L : Nat) (xs : Nat → Int32) : zAll (fun x => zVal L xs 107 x.1 x.2) (tb107) := ⟨v107_0 L xs, v107_1 L xs, v107_4 L xs, v107_5 L xs, v107_8 L xs, v107_11 L xs, v107_12 L xs, v107_15 L xs, v107_16 L xs, v107_19 L xs, v107_20 L xs, v107_23 L xs, v107_24 L xs, trivial⟩
theorem d108_0 : decode (mB 108) 0 = .ok (.aload_n 0, 1) := by decide +kernel
theorem d108_1 : decode (mB 108) 1 = .ok (.aload_n 0, 1) := by decide +kernel
theorem d108_2 : decode (mB 108) 2 = .ok (.getfield 58, 3) := by decide +kernel
theorem d108_5 : decode (mB 108) 5 = .ok (.ifCond .ge 10, 3) := by decide +kernel
theorem d108_8 : decode (mB 108) 8 = .ok (.aload_n 0, 1) := by decide +kernel
theorem d108_9 : decode (mB 108) 9 = .ok (.getfield 159, 3) := by decide +kernel
theorem d108_12 : decode (mB 108) 12 = .ok (.goto 7, 3) := by decide +kernel
theorem d108_15 : decode (mB 108) 15 = .ok (.aload_n 0, 1) := by decide +kernel
theorem d108_16 : decode (mB 108) 16 = .ok (.getfield 58, 3) := by decide +kernel
theorem d108_19 : decode (mB 108) 19 = .ok (.putfield 58, 3) := by decide +kernel
theorem d108_22 : decode (mB 108) 22 = .ok (.return_, 1) := by decide +kernel
theorem v108_0 (L : Nat) (xs : Nat → Int32) : zVal L xs 108 0 (.inl (i_al 0 1)) := zS_aload_n d108_0 rfl
theorem v108_1 (L : Nat) (xs : Nat → Int32) : zVal L xs 108 1 (.inl (i_al 0 2)) := zS_aload_n d108_1 rfl
theorem v108_2 (L : Nat) (xs : Nat → Int32) : zVal L xs 108 2 (.inl (i_gf 10 23 5)) := zS_getf d108_2 (zcl10) (by decide) zi10 w801
theorem v108_5 (L : Nat) (xs : Nat → Int32) : zVal L xs 108 5 (.inl (i_f1 (fun x => decide (0 ≤ x)) 15 8)) := zS_if_ge d108_5 (by decide)
theorem v108_8 (L : Nat) (xs : Nat → Int32) : zVal L xs 108 8 (.inl (i_al 0 9)) := zS_aload_n d108_8 rfl
theorem v108_9 (L : Nat) (xs : Nat → Int32) : zVal L xs 108 9 (.inl (i_gf 10 22 12)) := zS_getf d108_9 (zcl10) (by decide) zi10 w800
theorem v108_12 (L : Nat) (xs : Nat → Int32) : zVal L xs 108 12 (.inl (i_go 19)) := zS_goto d108_12 (by decide)
theorem v108_15 (L : Nat) (xs : Nat → Int32) : zVal L xs 108 15 (.inl (i_al 0 16)) := zS_aload_n d108_15 rfl
theorem v108_16 (L : Nat) (xs : Nat → Int32) : zVal L xs 108 16 (.inl (i_gf 10 23 19)) := zS_getf d108_16 (zcl10) (by decide) zi10 w801
theorem v108_19 (L : Nat) (xs : Nat → Int32) : zVal L xs 108 19 (.inl (i_k [true] (i_pf 10 23 okI 22))) := zS_k (zS_putf (ty := .int) d108_19 (zcl10) (by decide) zi10 w801 zy10 zn10 (by decide +kernel) (by decide +kernel) okI_ok)
theorem v108_22 (L : Nat) (xs : Nat → Int32) : zVal L xs 108 22 (.inr (.inr 0)) := zr_0 d108_22 rfl
theorem vt108 (L : Nat) (xs : Nat → Int32) : zAll (fun x => zVal L xs 108 x.1 x.2) (tb108) := ⟨v108_0 L xs, v108_1 L xs, v108_2 L xs, v108_5 L xs, v108_8 L xs, v108_9 L xs, v108_12 L xs, v108_15 L xs, v108_16 L xs, v108_19 L xs, v108_22 L xs, trivial⟩
theorem d109_0 : decode (mB 109) 0 = .ok (.aload_n 0, 1) := by decide +kernel
theorem d109_1 : decode (mB 109) 1 = .ok (.invokevirtual 162, 3) := by decide +kernel
theorem d109_4 : decode (mB 109) 4 = .ok (.istore_n 3, 1) := by decide +kernel
theorem d109_5 : decode (mB 109) 5 = .ok (.iload_n 3, 1) := by decide +kernel
theorem d109_6 : decode (mB 109) 6 = .ok (.iload_n 1, 1) := by decide +kernel
theorem d109_7 : decode (mB 109) 7 = .ok (.if_icmp .lt 8, 3) := by decide +kernel
theorem d109_10 : decode (mB 109) 10 = .ok (.iload_n 3, 1) := by decide +kernel
theorem d109_11 : decode (mB 109) 11 = .ok (.iload_n 2, 1) := by decide +kernel
theorem d109_12 : decode (mB 109) 12 = .ok (.if_icmp .le 10, 3) := by decide +kernel
theorem d109_15 : decode (mB 109) 15 = .ok (.aload_n 0, 1) := by decide +kernel
theorem d109_16 : decode (mB 109) 16 = .ok (.invokevirtual 166, 3) := by decide +kernel
theorem d109_19 : decode (mB 109) 19 = .ok (.goto 13, 3) := by decide +kernel
theorem d109_22 : decode (mB 109) 22 = .ok (.aload_n 0, 1) := by decide +kernel
theorem d109_23 : decode (mB 109) 23 = .ok (.dup, 1) := by decide +kernel
theorem d109_24 : decode (mB 109) 24 = .ok (.getfield 159, 3) := by decide +kernel
theorem d109_27 : decode (mB 109) 27 = .ok (.iconst 1, 1) := by decide +kernel
theorem d109_28 : decode (mB 109) 28 = .ok (.iadd, 1) := by decide +kernel
theorem d109_29 : decode (mB 109) 29 = .ok (.putfield 159, 3) := by decide +kernel
theorem d109_32 : decode (mB 109) 32 = .ok (.iload_n 3, 1) := by decide +kernel
theorem d109_33 : decode (mB 109) 33 = .ok (.ireturn, 1) := by decide +kernel
theorem v109_0 (L : Nat) (xs : Nat → Int32) : zVal L xs 109 0 (.inl (i_al 0 1)) := zS_aload_n d109_0 rfl
theorem v109_1 (L : Nat) (xs : Nat → Int32) : zVal L xs 109 1 (.inr (.inl (107, 1, 11))) := ⟨by decide +kernel, by decide +kernel, zc_virt d109_1 zcl10 w979 w976 w978 w41 w85 ⟨by decide +kernel, by decide +kernel, by decide +kernel⟩ (by decide) (by decide)⟩
theorem v109_4 (L : Nat) (xs : Nat → Int32) : zVal L xs 109 4 (.inl (i_is 3 5)) := zS_istore_n d109_4 rfl
theorem v109_5 (L : Nat) (xs : Nat → Int32) : zVal L xs 109 5 (.inl (i_il 3 6)) := zS_iload_n d109_5 rfl
theorem v109_6 (L : Nat) (xs : Nat → Int32) : zVal L xs 109 6 (.inl (i_il 1 7)) := zS_iload_n d109_6 rfl
theorem v109_7 (L : Nat) (xs : Nat → Int32) : zVal L xs 109 7 (.inl (i_f2 (fun x y => decide (x < y)) 15 10)) := zS_icmp_lt d109_7 (by decide)
theorem v109_10 (L : Nat) (xs : Nat → Int32) : zVal L xs 109 10 (.inl (i_il 3 11)) := zS_iload_n d109_10 rfl
theorem v109_11 (L : Nat) (xs : Nat → Int32) : zVal L xs 109 11 (.inl (i_il 2 12)) := zS_iload_n d109_11 rfl
theorem v109_12 (L : Nat) (xs : Nat → Int32) : zVal L xs 109 12 (.inl (i_f2 (fun x y => decide (x ≤ y)) 22 15)) := zS_icmp_le d109_12 (by decide)
theorem v109_15 (L : Nat) (xs : Nat → Int32) : zVal L xs 109 15 (.inl (i_k [false, true, true, false] (i_al 0 16))) := zS_k (zS_aload_n d109_15 rfl)
theorem v109_16 (L : Nat) (xs : Nat → Int32) : zVal L xs 109 16 (.inr (.inl (108, 1, 11))) := ⟨by decide +kernel, by decide +kernel, zc_virt d109_16 zcl10 w983 w980 w982 w42 w85 ⟨by decide +kernel, by decide +kernel, by decide +kernel⟩ (by decide) (by decide)⟩
theorem v109_19 (L : Nat) (xs : Nat → Int32) : zVal L xs 109 19 (.inl (i_go 32)) := zS_goto d109_19 (by decide)
theorem v109_22 (L : Nat) (xs : Nat → Int32) : zVal L xs 109 22 (.inl (i_al 0 23)) := zS_aload_n d109_22 rfl
theorem v109_23 (L : Nat) (xs : Nat → Int32) : zVal L xs 109 23 (.inl (i_dup 24)) := zS_dup d109_23
theorem v109_24 (L : Nat) (xs : Nat → Int32) : zVal L xs 109 24 (.inl (i_gf 10 22 27)) := zS_getf d109_24 (zcl10) (by decide) zi10 w800
theorem v109_27 (L : Nat) (xs : Nat → Int32) : zVal L xs 109 27 (.inl (i_c (.int 1) 28)) := zS_iconst d109_27 (by decide)
theorem v109_28 (L : Nat) (xs : Nat → Int32) : zVal L xs 109 28 (.inl (i_bi (fun x y => x + y) 29)) := zS_iadd d109_28
theorem v109_29 (L : Nat) (xs : Nat → Int32) : zVal L xs 109 29 (.inl (i_pf 10 22 okI 32)) := zS_putf (ty := .int) d109_29 (zcl10) (by decide) zi10 w800 zy10 zn10 (by decide +kernel) (by decide +kernel) okI_ok
theorem v109_32 (L : Nat) (xs : Nat → Int32) : zVal L xs 109 32 (.inl (i_k [true, true, true, false] (i_il 3 33))) := zS_k (zS_iload_n d109_32 rfl)
theorem v109_33 (L : Nat) (xs : Nat → Int32) : zVal L xs 109 33 (.inr (.inr 1)) := zr_1 d109_33 rfl
theorem vt109 (L : Nat) (xs : Nat → Int32) : zAll (fun x => zVal L xs 109 x.1 x.2) (tb109) := ⟨v109_0 L xs, v109_1 L xs, v109_4 L xs, v109_5 L xs, v109_6 L xs, v109_7 L xs, v109_10 L xs, v109_11 L xs, v109_12 L xs, v109_15 L xs, v109_16 L xs, v109_19 L xs, v109_22 L xs, v109_23 L xs, v109_24 L xs, v109_27 L xs, v109_28 L xs, v109_29 L xs, v109_32 L xs, v109_33 L xs, trivial⟩
theorem d110_0 : decode (mB 110) 0 = .ok (.iconst 0, 1) := by decide +kernel
theorem d110_1 : decode (mB 110) 1 = .ok (.istore_n 2, 1) := by decide +kernel
theorem d110_2 : decode (mB 110) 2 = .ok (.aload_n 0, 1) := by decide +kernel
theorem d110_3 : decode (mB 110) 3 = .ok (.getfield 58, 3) := by decide +kernel
theorem d110_6 : decode (mB 110) 6 = .ok (.ifCond .ge 73, 3) := by decide +kernel
theorem d110_9 : decode (mB 110) 9 = .ok (.aload_n 0, 1) := by decide +kernel
theorem d110_10 : decode (mB 110) 10 = .ok (.invokevirtual 162, 3) := by decide +kernel
theorem d110_13 : decode (mB 110) 13 = .ok (.invokestatic 123, 3) := by decide +kernel
theorem d110_16 : decode (mB 110) 16 = .ok (.ifCond .eq 63, 3) := by decide +kernel
theorem d110_19 : decode (mB 110) 19 = .ok (.iload_n 2, 1) := by decide +kernel
theorem d110_20 : decode (mB 110) 20 = .ok (.bipush 12, 2) := by decide +kernel
theorem d110_22 : decode (mB 110) 22 = .ok (.if_icmp .ne 10, 3) := by decide +kernel
theorem d110_25 : decode (mB 110) 25 = .ok (.aload_n 0, 1) := by decide +kernel
theorem d110_26 : decode (mB 110) 26 = .ok (.invokevirtual 166, 3) := by decide +kernel
theorem d110_29 : decode (mB 110) 29 = .ok (.goto (-27), 3) := by decide +kernel
theorem d110_32 : decode (mB 110) 32 = .ok (.aload_n 0, 1) := by decide +kernel
theorem d110_33 : decode (mB 110) 33 = .ok (.getfield 46, 3) := by decide +kernel
theorem d110_36 : decode (mB 110) 36 = .ok (.sipush 192, 3) := by decide +kernel
theorem d110_39 : decode (mB 110) 39 = .ok (.iload_n 1, 1) := by decide +kernel
theorem d110_40 : decode (mB 110) 40 = .ok (.imul, 1) := by decide +kernel
theorem d110_41 : decode (mB 110) 41 = .ok (.aload_n 0, 1) := by decide +kernel
theorem d110_42 : decode (mB 110) 42 = .ok (.getfield 55, 3) := by decide +kernel
theorem d110_45 : decode (mB 110) 45 = .ok (.iload_n 1, 1) := by decide +kernel
theorem d110_46 : decode (mB 110) 46 = .ok (.iaload, 1) := by decide +kernel
theorem d110_47 : decode (mB 110) 47 = .ok (.iadd, 1) := by decide +kernel
theorem d110_48 : decode (mB 110) 48 = .ok (.aload_n 0, 1) := by decide +kernel
theorem d110_49 : decode (mB 110) 49 = .ok (.invokevirtual 162, 3) := by decide +kernel
theorem d110_52 : decode (mB 110) 52 = .ok (.iastore, 1) := by decide +kernel
theorem d110_53 : decode (mB 110) 53 = .ok (.aload_n 0, 1) := by decide +kernel
theorem d110_54 : decode (mB 110) 54 = .ok (.getfield 55, 3) := by decide +kernel
theorem d110_57 : decode (mB 110) 57 = .ok (.iload_n 1, 1) := by decide +kernel
theorem d110_58 : decode (mB 110) 58 = .ok (.dup2, 1) := by decide +kernel
theorem d110_59 : decode (mB 110) 59 = .ok (.iaload, 1) := by decide +kernel
theorem d110_60 : decode (mB 110) 60 = .ok (.iconst 1, 1) := by decide +kernel
theorem d110_61 : decode (mB 110) 61 = .ok (.iadd, 1) := by decide +kernel
theorem d110_62 : decode (mB 110) 62 = .ok (.iastore, 1) := by decide +kernel
theorem d110_63 : decode (mB 110) 63 = .ok (.iinc 2 1, 3) := by decide +kernel
theorem d110_66 : decode (mB 110) 66 = .ok (.aload_n 0, 1) := by decide +kernel
theorem d110_67 : decode (mB 110) 67 = .ok (.dup, 1) := by decide +kernel
theorem d110_68 : decode (mB 110) 68 = .ok (.getfield 159, 3) := by decide +kernel
theorem d110_71 : decode (mB 110) 71 = .ok (.iconst 1, 1) := by decide +kernel
theorem d110_72 : decode (mB 110) 72 = .ok (.iadd, 1) := by decide +kernel
theorem d110_73 : decode (mB 110) 73 = .ok (.putfield 159, 3) := by decide +kernel
theorem d110_76 : decode (mB 110) 76 = .ok (.goto (-74), 3) := by decide +kernel
theorem d110_79 : decode (mB 110) 79 = .ok (.aload_n 0, 1) := by decide +kernel
theorem d110_80 : decode (mB 110) 80 = .ok (.getfield 49, 3) := by decide +kernel
theorem d110_83 : decode (mB 110) 83 = .ok (.bipush 16, 2) := by decide +kernel
theorem d110_85 : decode (mB 110) 85 = .ok (.iload_n 1, 1) := by decide +kernel
theorem d110_86 : decode (mB 110) 86 = .ok (.imul, 1) := by decide +kernel
theorem d110_87 : decode (mB 110) 87 = .ok (.aload_n 0, 1) := by decide +kernel
theorem d110_88 : decode (mB 110) 88 = .ok (.getfield 52, 3) := by decide +kernel
theorem d110_91 : decode (mB 110) 91 = .ok (.iload_n 1, 1) := by decide +kernel
theorem d110_92 : decode (mB 110) 92 = .ok (.iaload, 1) := by decide +kernel
theorem d110_93 : decode (mB 110) 93 = .ok (.iadd, 1) := by decide +kernel
theorem d110_94 : decode (mB 110) 94 = .ok (.aload_n 0, 1) := by decide +kernel
theorem d110_95 : decode (mB 110) 95 = .ok (.getfield 55, 3) := by decide +kernel
theorem d110_98 : decode (mB 110) 98 = .ok (.iload_n 1, 1) := by decide +kernel
theorem d110_99 : decode (mB 110) 99 = .ok (.iaload, 1) := by decide +kernel
theorem d110_100 : decode (mB 110) 100 = .ok (.iastore, 1) := by decide +kernel
theorem d110_101 : decode (mB 110) 101 = .ok (.aload_n 0, 1) := by decide +kernel
theorem d110_102 : decode (mB 110) 102 = .ok (.getfield 52, 3) := by decide +kernel
theorem d110_105 : decode (mB 110) 105 = .ok (.iload_n 1, 1) := by decide +kernel
theorem d110_106 : decode (mB 110) 106 = .ok (.dup2, 1) := by decide +kernel
theorem d110_107 : decode (mB 110) 107 = .ok (.iaload, 1) := by decide +kernel
theorem d110_108 : decode (mB 110) 108 = .ok (.iconst 1, 1) := by decide +kernel
theorem d110_109 : decode (mB 110) 109 = .ok (.iadd, 1) := by decide +kernel
theorem d110_110 : decode (mB 110) 110 = .ok (.iastore, 1) := by decide +kernel
theorem d110_111 : decode (mB 110) 111 = .ok (.return_, 1) := by decide +kernel
theorem v110_0 (L : Nat) (xs : Nat → Int32) : zVal L xs 110 0 (.inl (i_c (.int 0) 1)) := zS_iconst d110_0 (by decide)
theorem v110_1 (L : Nat) (xs : Nat → Int32) : zVal L xs 110 1 (.inl (i_is 2 2)) := zS_istore_n d110_1 rfl
theorem v110_2 (L : Nat) (xs : Nat → Int32) : zVal L xs 110 2 (.inl (i_k [false, false, false] (i_al 0 3))) := zS_k (zS_aload_n d110_2 rfl)
theorem v110_3 (L : Nat) (xs : Nat → Int32) : zVal L xs 110 3 (.inl (i_gf 10 23 6)) := zS_getf d110_3 (zcl10) (by decide) zi10 w801
theorem v110_6 (L : Nat) (xs : Nat → Int32) : zVal L xs 110 6 (.inl (i_f1 (fun x => decide (0 ≤ x)) 79 9)) := zS_if_ge d110_6 (by decide)
theorem v110_9 (L : Nat) (xs : Nat → Int32) : zVal L xs 110 9 (.inl (i_al 0 10)) := zS_aload_n d110_9 rfl
theorem v110_10 (L : Nat) (xs : Nat → Int32) : zVal L xs 110 10 (.inr (.inl (107, 1, 11))) := ⟨by decide +kernel, by decide +kernel, zc_virt d110_10 zcl10 w979 w976 w978 w41 w85 ⟨by decide +kernel, by decide +kernel, by decide +kernel⟩ (by decide) (by decide)⟩
theorem v110_13 (L : Nat) (xs : Nat → Int32) : zVal L xs 110 13 (.inr (.inl (95, 1, 0))) := ⟨by decide +kernel, by decide +kernel, zc_static d110_13 w924 w922 w923 w85 ⟨by decide +kernel, by decide +kernel, by decide +kernel⟩ (by decide) (by decide)⟩
theorem v110_16 (L : Nat) (xs : Nat → Int32) : zVal L xs 110 16 (.inl (i_f1 (fun x => decide (x = 0)) 79 19)) := zS_if_eq d110_16 (by decide)
theorem v110_19 (L : Nat) (xs : Nat → Int32) : zVal L xs 110 19 (.inl (i_il 2 20)) := zS_iload_n d110_19 rfl
theorem v110_20 (L : Nat) (xs : Nat → Int32) : zVal L xs 110 20 (.inl (i_c (.int 12) 22)) := zS_bipush d110_20 (by decide)
theorem v110_22 (L : Nat) (xs : Nat → Int32) : zVal L xs 110 22 (.inl (i_f2 (fun x y => decide (¬ x = y)) 32 25)) := zS_icmp_ne d110_22 (by decide)
theorem v110_25 (L : Nat) (xs : Nat → Int32) : zVal L xs 110 25 (.inl (i_al 0 26)) := zS_aload_n d110_25 rfl
theorem v110_26 (L : Nat) (xs : Nat → Int32) : zVal L xs 110 26 (.inr (.inl (108, 1, 11))) := ⟨by decide +kernel, by decide +kernel, zc_virt d110_26 zcl10 w983 w980 w982 w42 w85 ⟨by decide +kernel, by decide +kernel, by decide +kernel⟩ (by decide) (by decide)⟩
theorem v110_29 (L : Nat) (xs : Nat → Int32) : zVal L xs 110 29 (.inl (i_go 2)) := zS_goto d110_29 (by decide)
theorem v110_32 (L : Nat) (xs : Nat → Int32) : zVal L xs 110 32 (.inl (i_al 0 33)) := zS_aload_n d110_32 rfl
theorem v110_33 (L : Nat) (xs : Nat → Int32) : zVal L xs 110 33 (.inl (i_gf 10 18 36)) := zS_getf d110_33 (zcl10) (by decide) zi10 w796
theorem v110_36 (L : Nat) (xs : Nat → Int32) : zVal L xs 110 36 (.inl (i_c (.int 192) 39)) := zS_sipush d110_36 (by decide)
theorem v110_39 (L : Nat) (xs : Nat → Int32) : zVal L xs 110 39 (.inl (i_il 1 40)) := zS_iload_n d110_39 rfl
theorem v110_40 (L : Nat) (xs : Nat → Int32) : zVal L xs 110 40 (.inl (i_bi (fun x y => x * y) 41)) := zS_imul d110_40
theorem v110_41 (L : Nat) (xs : Nat → Int32) : zVal L xs 110 41 (.inl (i_al 0 42)) := zS_aload_n d110_41 rfl
theorem v110_42 (L : Nat) (xs : Nat → Int32) : zVal L xs 110 42 (.inl (i_gf 10 21 45)) := zS_getf d110_42 (zcl10) (by decide) zi10 w799
theorem v110_45 (L : Nat) (xs : Nat → Int32) : zVal L xs 110 45 (.inl (i_il 1 46)) := zS_iload_n d110_45 rfl
theorem v110_46 (L : Nat) (xs : Nat → Int32) : zVal L xs 110 46 (.inl (i_ga 0 47)) := zS_iald d110_46
theorem v110_47 (L : Nat) (xs : Nat → Int32) : zVal L xs 110 47 (.inl (i_bi (fun x y => x + y) 48)) := zS_iadd d110_47
theorem v110_48 (L : Nat) (xs : Nat → Int32) : zVal L xs 110 48 (.inl (i_al 0 49)) := zS_aload_n d110_48 rfl
theorem v110_49 (L : Nat) (xs : Nat → Int32) : zVal L xs 110 49 (.inr (.inl (107, 1, 11))) := ⟨by decide +kernel, by decide +kernel, zc_virt d110_49 zcl10 w979 w976 w978 w41 w85 ⟨by decide +kernel, by decide +kernel, by decide +kernel⟩ (by decide) (by decide)⟩
theorem v110_52 (L : Nat) (xs : Nat → Int32) : zVal L xs 110 52 (.inl (i_pa 0 (fun x => x) 53)) := zS_iast d110_52
theorem v110_53 (L : Nat) (xs : Nat → Int32) : zVal L xs 110 53 (.inl (i_al 0 54)) := zS_aload_n d110_53 rfl
theorem v110_54 (L : Nat) (xs : Nat → Int32) : zVal L xs 110 54 (.inl (i_gf 10 21 57)) := zS_getf d110_54 (zcl10) (by decide) zi10 w799
theorem v110_57 (L : Nat) (xs : Nat → Int32) : zVal L xs 110 57 (.inl (i_il 1 58)) := zS_iload_n d110_57 rfl
theorem v110_58 (L : Nat) (xs : Nat → Int32) : zVal L xs 110 58 (.inl (i_d2 59)) := zS_dup2 d110_58
theorem v110_59 (L : Nat) (xs : Nat → Int32) : zVal L xs 110 59 (.inl (i_ga 0 60)) := zS_iald d110_59
theorem v110_60 (L : Nat) (xs : Nat → Int32) : zVal L xs 110 60 (.inl (i_c (.int 1) 61)) := zS_iconst d110_60 (by decide)
theorem v110_61 (L : Nat) (xs : Nat → Int32) : zVal L xs 110 61 (.inl (i_bi (fun x y => x + y) 62)) := zS_iadd d110_61
theorem v110_62 (L : Nat) (xs : Nat → Int32) : zVal L xs 110 62 (.inl (i_pa 0 (fun x => x) 63)) := zS_iast d110_62
theorem v110_63 (L : Nat) (xs : Nat → Int32) : zVal L xs 110 63 (.inl (i_in 2 1 66)) := zS_iinc d110_63 (by decide)
theorem v110_66 (L : Nat) (xs : Nat → Int32) : zVal L xs 110 66 (.inl (i_al 0 67)) := zS_aload_n d110_66 rfl
theorem v110_67 (L : Nat) (xs : Nat → Int32) : zVal L xs 110 67 (.inl (i_dup 68)) := zS_dup d110_67
theorem v110_68 (L : Nat) (xs : Nat → Int32) : zVal L xs 110 68 (.inl (i_gf 10 22 71)) := zS_getf d110_68 (zcl10) (by decide) zi10 w800
theorem v110_71 (L : Nat) (xs : Nat → Int32) : zVal L xs 110 71 (.inl (i_c (.int 1) 72)) := zS_iconst d110_71 (by decide)
theorem v110_72 (L : Nat) (xs : Nat → Int32) : zVal L xs 110 72 (.inl (i_bi (fun x y => x + y) 73)) := zS_iadd d110_72
theorem v110_73 (L : Nat) (xs : Nat → Int32) : zVal L xs 110 73 (.inl (i_pf 10 22 okI 76)) := zS_putf (ty := .int) d110_73 (zcl10) (by decide) zi10 w800 zy10 zn10 (by decide +kernel) (by decide +kernel) okI_ok
theorem v110_76 (L : Nat) (xs : Nat → Int32) : zVal L xs 110 76 (.inl (i_go 2)) := zS_goto d110_76 (by decide)
theorem v110_79 (L : Nat) (xs : Nat → Int32) : zVal L xs 110 79 (.inl (i_k [false, false, true] (i_al 0 80))) := zS_k (zS_aload_n d110_79 rfl)
theorem v110_80 (L : Nat) (xs : Nat → Int32) : zVal L xs 110 80 (.inl (i_gf 10 19 83)) := zS_getf d110_80 (zcl10) (by decide) zi10 w797
theorem v110_83 (L : Nat) (xs : Nat → Int32) : zVal L xs 110 83 (.inl (i_c (.int 16) 85)) := zS_bipush d110_83 (by decide)
theorem v110_85 (L : Nat) (xs : Nat → Int32) : zVal L xs 110 85 (.inl (i_il 1 86)) := zS_iload_n d110_85 rfl
theorem v110_86 (L : Nat) (xs : Nat → Int32) : zVal L xs 110 86 (.inl (i_bi (fun x y => x * y) 87)) := zS_imul d110_86
theorem v110_87 (L : Nat) (xs : Nat → Int32) : zVal L xs 110 87 (.inl (i_al 0 88)) := zS_aload_n d110_87 rfl
theorem v110_88 (L : Nat) (xs : Nat → Int32) : zVal L xs 110 88 (.inl (i_gf 10 20 91)) := zS_getf d110_88 (zcl10) (by decide) zi10 w798
theorem v110_91 (L : Nat) (xs : Nat → Int32) : zVal L xs 110 91 (.inl (i_il 1 92)) := zS_iload_n d110_91 rfl
theorem v110_92 (L : Nat) (xs : Nat → Int32) : zVal L xs 110 92 (.inl (i_ga 0 93)) := zS_iald d110_92
theorem v110_93 (L : Nat) (xs : Nat → Int32) : zVal L xs 110 93 (.inl (i_bi (fun x y => x + y) 94)) := zS_iadd d110_93
theorem v110_94 (L : Nat) (xs : Nat → Int32) : zVal L xs 110 94 (.inl (i_al 0 95)) := zS_aload_n d110_94 rfl
theorem v110_95 (L : Nat) (xs : Nat → Int32) : zVal L xs 110 95 (.inl (i_gf 10 21 98)) := zS_getf d110_95 (zcl10) (by decide) zi10 w799
theorem v110_98 (L : Nat) (xs : Nat → Int32) : zVal L xs 110 98 (.inl (i_il 1 99)) := zS_iload_n d110_98 rfl
theorem v110_99 (L : Nat) (xs : Nat → Int32) : zVal L xs 110 99 (.inl (i_ga 0 100)) := zS_iald d110_99
theorem v110_100 (L : Nat) (xs : Nat → Int32) : zVal L xs 110 100 (.inl (i_pa 0 (fun x => x) 101)) := zS_iast d110_100
theorem v110_101 (L : Nat) (xs : Nat → Int32) : zVal L xs 110 101 (.inl (i_al 0 102)) := zS_aload_n d110_101 rfl
theorem v110_102 (L : Nat) (xs : Nat → Int32) : zVal L xs 110 102 (.inl (i_gf 10 20 105)) := zS_getf d110_102 (zcl10) (by decide) zi10 w798
theorem v110_105 (L : Nat) (xs : Nat → Int32) : zVal L xs 110 105 (.inl (i_il 1 106)) := zS_iload_n d110_105 rfl
theorem v110_106 (L : Nat) (xs : Nat → Int32) : zVal L xs 110 106 (.inl (i_d2 107)) := zS_dup2 d110_106
theorem v110_107 (L : Nat) (xs : Nat → Int32) : zVal L xs 110 107 (.inl (i_ga 0 108)) := zS_iald d110_107
theorem v110_108 (L : Nat) (xs : Nat → Int32) : zVal L xs 110 108 (.inl (i_c (.int 1) 109)) := zS_iconst d110_108 (by decide)
theorem v110_109 (L : Nat) (xs : Nat → Int32) : zVal L xs 110 109 (.inl (i_bi (fun x y => x + y) 110)) := zS_iadd d110_109
theorem v110_110 (L : Nat) (xs : Nat → Int32) : zVal L xs 110 110 (.inl (i_pa 0 (fun x => x) 111)) := zS_iast d110_110
theorem v110_111 (L : Nat) (xs : Nat → Int32) : zVal L xs 110 111 (.inr (.inr 0)) := zr_0 d110_111 rfl
theorem vt110 (L : Nat) (xs : Nat → Int32) : zAll (fun x => zVal L xs 110 x.1 x.2) (tb110) := ⟨v110_0 L xs, v110_1 L xs, v110_2 L xs, v110_3 L xs, v110_6 L xs, v110_9 L xs, v110_10 L xs, v110_13 L xs, v110_16 L xs, v110_19 L xs, v110_20 L xs, v110_22 L xs, v110_25 L xs, v110_26 L xs, v110_29 L xs, v110_32 L xs, v110_33 L xs, v110_36 L xs, v110_39 L xs, v110_40 L xs, v110_41 L xs, v110_42 L xs, v110_45 L xs, v110_46 L xs, v110_47 L xs, v110_48 L xs, v110_49 L xs, v110_52 L xs, v110_53 L xs, v110_54 L xs, v110_57 L xs, v110_58 L xs, v110_59 L xs, v110_60 L xs, v110_61 L xs, v110_62 L xs, v110_63 L xs, v110_66 L xs, v110_67 L xs, v110_68 L xs, v110_71 L xs, v110_72 L xs, v110_73 L xs, v110_76 L xs, v110_79 L xs, v110_80 L xs, v110_83 L xs, v110_85 L xs, v110_86 L xs, v110_87 L xs, v110_88 L xs, v110_91 L xs, v110_92 L xs, v110_93 L xs, v110_94 L xs, v110_95 L xs, v110_98 L xs, v110_99 L xs, v110_100 L xs, v110_101 L xs, v110_102 L xs, v110_105 L xs, v110_106 L xs, v110_107 L xs, v110_108 L xs, v110_109 L xs, v110_110 L xs, v110_111 L xs, trivial⟩
theorem d111_0 : decode (mB 111) 0 = .ok (.aload_n 0, 1) := by decide +kernel
theorem d111_1 : decode (mB 111) 1 = .ok (.getfield 52, 3) := by decide +kernel
theorem d111_4 : decode (mB 111) 4 = .ok (.iload_n 1, 1) := by decide +kernel
theorem d111_5 : decode (mB 111) 5 = .ok (.iconst 0, 1) := by decide +kernel
theorem d111_6 : decode (mB 111) 6 = .ok (.iastore, 1) := by decide +kernel
theorem d111_7 : decode (mB 111) 7 = .ok (.aload_n 0, 1) := by decide +kernel
theorem d111_8 : decode (mB 111) 8 = .ok (.getfield 55, 3) := by decide +kernel
theorem d111_11 : decode (mB 111) 11 = .ok (.iload_n 1, 1) := by decide +kernel
theorem d111_12 : decode (mB 111) 12 = .ok (.iconst 0, 1) := by decide +kernel
theorem d111_13 : decode (mB 111) 13 = .ok (.iastore, 1) := by decide +kernel
theorem d111_14 : decode (mB 111) 14 = .ok (.iconst 1, 1) := by decide +kernel
theorem d111_15 : decode (mB 111) 15 = .ok (.istore_n 3, 1) := by decide +kernel
theorem d111_16 : decode (mB 111) 16 = .ok (.aload_n 0, 1) := by decide +kernel
theorem d111_17 : decode (mB 111) 17 = .ok (.getfield 58, 3) := by decide +kernel
theorem d111_20 : decode (mB 111) 20 = .ok (.ifCond .ge 85, 3) := by decide +kernel
theorem d111_23 : decode (mB 111) 23 = .ok (.iload_n 3, 1) := by decide +kernel
theorem d111_24 : decode (mB 111) 24 = .ok (.ifCond .eq 81, 3) := by decide +kernel
theorem d111_27 : decode (mB 111) 27 = .ok (.aload_n 0, 1) := by decide +kernel
theorem d111_28 : decode (mB 111) 28 = .ok (.invokevirtual 162, 3) := by decide +kernel
theorem d111_31 : decode (mB 111) 31 = .ok (.invokestatic 123, 3) := by decide +kernel
theorem d111_34 : decode (mB 111) 34 = .ok (.ifCond .eq 13, 3) := by decide +kernel
theorem d111_37 : decode (mB 111) 37 = .ok (.aload_n 0, 1) := by decide +kernel
theorem d111_38 : decode (mB 111) 38 = .ok (.getfield 52, 3) := by decide +kernel
theorem d111_41 : decode (mB 111) 41 = .ok (.iload_n 1, 1) := by decide +kernel
theorem d111_42 : decode (mB 111) 42 = .ok (.iaload, 1) := by decide +kernel
theorem d111_43 : decode (mB 111) 43 = .ok (.iload_n 2, 1) := by decide +kernel
theorem d111_44 : decode (mB 111) 44 = .ok (.if_icmp .ne 10, 3) := by decide +kernel
theorem d111_47 : decode (mB 111) 47 = .ok (.aload_n 0, 1) := by decide +kernel
theorem d111_48 : decode (mB 111) 48 = .ok (.invokevirtual 166, 3) := by decide +kernel
theorem d111_51 : decode (mB 111) 51 = .ok (.goto (-35), 3) := by decide +kernel
theorem d111_54 : decode (mB 111) 54 = .ok (.aload_n 0, 1) := by decide +kernel
theorem d111_55 : decode (mB 111) 55 = .ok (.iload_n 1, 1) := by decide +kernel
theorem d111_56 : decode (mB 111) 56 = .ok (.invokevirtual 169, 3) := by decide +kernel
theorem d111_59 : decode (mB 111) 59 = .ok (.aload_n 0, 1) := by decide +kernel
theorem d111_60 : decode (mB 111) 60 = .ok (.invokevirtual 162, 3) := by decide +kernel
theorem d111_63 : decode (mB 111) 63 = .ok (.bipush 32, 2) := by decide +kernel
theorem d111_65 : decode (mB 111) 65 = .ok (.if_icmp .ne 7, 3) := by decide +kernel
theorem d111_68 : decode (mB 111) 68 = .ok (.iconst 1, 1) := by decide +kernel
theorem d111_69 : decode (mB 111) 69 = .ok (.goto 4, 3) := by decide +kernel
theorem d111_72 : decode (mB 111) 72 = .ok (.iconst 0, 1) := by decide +kernel
theorem d111_73 : decode (mB 111) 73 = .ok (.istore_n 3, 1) := by decide +kernel
theorem d111_74 : decode (mB 111) 74 = .ok (.aload_n 0, 1) := by decide +kernel
theorem d111_75 : decode (mB 111) 75 = .ok (.iload_n 3, 1) := by decide +kernel
theorem d111_76 : decode (mB 111) 76 = .ok (.ifCond .eq 19, 3) := by decide +kernel
theorem d111_79 : decode (mB 111) 79 = .ok (.aload_n 0, 1) := by decide +kernel
theorem d111_80 : decode (mB 111) 80 = .ok (.getfield 58, 3) := by decide +kernel
theorem d111_83 : decode (mB 111) 83 = .ok (.ifCond .ge 12, 3) := by decide +kernel
theorem d111_86 : decode (mB 111) 86 = .ok (.aload_n 0, 1) := by decide +kernel
theorem d111_87 : decode (mB 111) 87 = .ok (.getfield 159, 3) := by decide +kernel
theorem d111_90 : decode (mB 111) 90 = .ok (.iconst 1, 1) := by decide +kernel
theorem d111_91 : decode (mB 111) 91 = .ok (.iadd, 1) := by decide +kernel
theorem d111_92 : decode (mB 111) 92 = .ok (.goto 7, 3) := by decide +kernel
theorem d111_95 : decode (mB 111) 95 = .ok (.aload_n 0, 1) := by decide +kernel
theorem d111_96 : decode (mB 111) 96 = .ok (.getfield 159, 3) := by decide +kernel
theorem d111_99 : decode (mB 111) 99 = .ok (.putfield 159, 3) := by decide +kernel
theorem d111_102 : decode (mB 111) 102 = .ok (.goto (-86), 3) := by decide +kernel
theorem d111_105 : decode (mB 111) 105 = .ok (.aload_n 0, 1) := by decide +kernel
theorem d111_106 : decode (mB 111) 106 = .ok (.getfield 58, 3) := by decide +kernel
theorem d111_109 : decode (mB 111) 109 = .ok (.ifCond .ge 13, 3) := by decide +kernel
theorem d111_112 : decode (mB 111) 112 = .ok (.aload_n 0, 1) := by decide +kernel
theorem d111_113 : decode (mB 111) 113 = .ok (.bipush 10, 2) := by decide +kernel
theorem d111_115 : decode (mB 111) 115 = .ok (.bipush 10, 2) := by decide +kernel
theorem d111_117 : decode (mB 111) 117 = .ok (.invokevirtual 172, 3) := by decide +kernel
theorem d111_120 : decode (mB 111) 120 = .ok (.istore 4, 2) := by decide +kernel
theorem d111_122 : decode (mB 111) 122 = .ok (.return_, 1) := by decide +kernel
theorem v111_0 (L : Nat) (xs : Nat → Int32) : zVal L xs 111 0 (.inl (i_al 0 1)) := zS_aload_n d111_0 rfl
theorem v111_1 (L : Nat) (xs : Nat → Int32) : zVal L xs 111 1 (.inl (i_gf 10 20 4)) := zS_getf d111_1 (zcl10) (by decide) zi10 w798
theorem v111_4 (L : Nat) (xs : Nat → Int32) : zVal L xs 111 4 (.inl (i_il 1 5)) := zS_iload_n d111_4 rfl
theorem v111_5 (L : Nat) (xs : Nat → Int32) : zVal L xs 111 5 (.inl (i_c (.int 0) 6)) := zS_iconst d111_5 (by decide)
theorem v111_6 (L : Nat) (xs : Nat → Int32) : zVal L xs 111 6 (.inl (i_pa 0 (fun x => x) 7)) := zS_iast d111_6
theorem v111_7 (L : Nat) (xs : Nat → Int32) : zVal L xs 111 7 (.inl (i_al 0 8)) := zS_aload_n d111_7 rfl
theorem v111_8 (L : Nat) (xs : Nat → Int32) : zVal L xs 111 8 (.inl (i_gf 10 21 11)) := zS_getf d111_8 (zcl10) (by decide) zi10 w799
theorem v111_11 (L : Nat) (xs : Nat → Int32) : zVal L xs 111 11 (.inl (i_il 1 12)) := zS_iload_n d111_11 rfl
theorem v111_12 (L : Nat) (xs : Nat → Int32) : zVal L xs 111 12 (.inl (i_c (.int 0) 13)) := zS_iconst d111_12 (by decide)
theorem v111_13 (L : Nat) (xs : Nat → Int32) : zVal L xs 111 13 (.inl (i_pa 0 (fun x => x) 14)) := zS_iast d111_13
theorem v111_14 (L : Nat) (xs : Nat → Int32) : zVal L xs 111 14 (.inl (i_c (.int 1) 15)) := zS_iconst d111_14 (by decide)
theorem v111_15 (L : Nat) (xs : Nat → Int32) : zVal L xs 111 15 (.inl (i_is 3 16)) := zS_istore_n d111_15 rfl
theorem v111_16 (L : Nat) (xs : Nat → Int32) : zVal L xs 111 16 (.inl (i_k [false, false, false, false, true] (i_al 0 17))) := zS_k (zS_aload_n d111_16 rfl)
theorem v111_17 (L : Nat) (xs : Nat → Int32) : zVal L xs 111 17 (.inl (i_gf 10 23 20)) := zS_getf d111_17 (zcl10) (by decide) zi10 w801
theorem v111_20 (L : Nat) (xs : Nat → Int32) : zVal L xs 111 20 (.inl (i_f1 (fun x => decide (0 ≤ x)) 105 23)) := zS_if_ge d111_20 (by decide)
theorem v111_23 (L : Nat) (xs : Nat → Int32) : zVal L xs 111 23 (.inl (i_il 3 24)) := zS_iload_n d111_23 rfl
theorem v111_24 (L : Nat) (xs : Nat → Int32) : zVal L xs 111 24 (.inl (i_f1 (fun x => decide (x = 0)) 105 27)) := zS_if_eq d111_24 (by decide)
theorem v111_27 (L : Nat) (xs : Nat → Int32) : zVal L xs 111 27 (.inl (i_al 0 28)) := zS_aload_n d111_27 rfl
theorem v111_28 (L : Nat) (xs : Nat → Int32) : zVal L xs 111 28 (.inr (.inl (107, 1, 11))) := ⟨by decide +kernel, by decide +kernel, zc_virt d111_28 zcl10 w979 w976 w978 w41 w85 ⟨by decide +kernel, by decide +kernel, by decide +kernel⟩ (by decide) (by decide)⟩
theorem v111_31 (L : Nat) (xs : Nat → Int32) : zVal L xs 111 31 (.inr (.inl (95, 1, 0))) := ⟨by decide +kernel, by decide +kernel, zc_static d111_31 w924 w922 w923 w85 ⟨by decide +kernel, by decide +kernel, by decide +kernel⟩ (by decide) (by decide)⟩
theorem v111_34 (L : Nat) (xs : Nat → Int32) : zVal L xs 111 34 (.inl (i_f1 (fun x => decide (x = 0)) 47 37)) := zS_if_eq d111_34 (by decide)
theorem v111_37 (L : Nat) (xs : Nat → Int32) : zVal L xs 111 37 (.inl (i_al 0 38)) := zS_aload_n d111_37 rfl
theorem v111_38 (L : Nat) (xs : Nat → Int32) : zVal L xs 111 38 (.inl (i_gf 10 20 41)) := zS_getf d111_38 (zcl10) (by decide) zi10 w798
theorem v111_41 (L : Nat) (xs : Nat → Int32) : zVal L xs 111 41 (.inl (i_il 1 42)) := zS_iload_n d111_41 rfl
theorem v111_42 (L : Nat) (xs : Nat → Int32) : zVal L xs 111 42 (.inl (i_ga 0 43)) := zS_iald d111_42
theorem v111_43 (L : Nat) (xs : Nat → Int32) : zVal L xs 111 43 (.inl (i_il 2 44)) := zS_iload_n d111_43 rfl
theorem v111_44 (L : Nat) (xs : Nat → Int32) : zVal L xs 111 44 (.inl (i_f2 (fun x y => decide (¬ x = y)) 54 47)) := zS_icmp_ne d111_44 (by decide)
theorem v111_47 (L : Nat) (xs : Nat → Int32) : zVal L xs 111 47 (.inl (i_k [false, false, false, false, true] (i_al 0 48))) := zS_k (zS_aload_n d111_47 rfl)
theorem v111_48 (L : Nat) (xs : Nat → Int32) : zVal L xs 111 48 (.inr (.inl (108, 1, 11))) := ⟨by decide +kernel, by decide +kernel, zc_virt d111_48 zcl10 w983 w980 w982 w42 w85 ⟨by decide +kernel, by decide +kernel, by decide +kernel⟩ (by decide) (by decide)⟩
theorem v111_51 (L : Nat) (xs : Nat → Int32) : zVal L xs 111 51 (.inl (i_go 16)) := zS_goto d111_51 (by decide)
theorem v111_54 (L : Nat) (xs : Nat → Int32) : zVal L xs 111 54 (.inl (i_al 0 55)) := zS_aload_n d111_54 rfl
theorem v111_55 (L : Nat) (xs : Nat → Int32) : zVal L xs 111 55 (.inl (i_il 1 56)) := zS_iload_n d111_55 rfl
theorem v111_56 (L : Nat) (xs : Nat → Int32) : zVal L xs 111 56 (.inr (.inl (110, 2, 11))) := ⟨by decide +kernel, by decide +kernel, zc_virt d111_56 zcl10 w995 w992 w994 w45 w85 ⟨by decide +kernel, by decide +kernel, by decide +kernel⟩ (by decide) (by decide)⟩
theorem v111_59 (L : Nat) (xs : Nat → Int32) : zVal L xs 111 59 (.inl (i_al 0 60)) := zS_aload_n d111_59 rfl
theorem v111_60 (L : Nat) (xs : Nat → Int32) : zVal L xs 111 60 (.inr (.inl (107, 1, 11))) := ⟨by decide +kernel, by decide +kernel, zc_virt d111_60 zcl10 w979 w976 w978 w41 w85 ⟨by decide +kernel, by decide +kernel, by decide +kernel⟩ (by decide) (by decide)⟩
theorem v111_63 (L : Nat) (xs : Nat → Int32) : zVal L xs 111 63 (.inl (i_c (.int 32) 65)) := zS_bipush d111_63 (by decide)
theorem v111_65 (L : Nat) (xs : Nat → Int32) : zVal L xs 111 65 (.inl (i_f2 (fun x y => decide (¬ x = y)) 72 68)) := zS_icmp_ne d111_65 (by decide)
theorem v111_68 (L : Nat) (xs : Nat → Int32) : zVal L xs 111 68 (.inl (i_c (.int 1) 69)) := zS_iconst d111_68 (by decide)
theorem v111_69 (L : Nat) (xs : Nat → Int32) : zVal L xs 111 69 (.inl (i_go 73)) := zS_goto d111_69 (by decide)
theorem v111_72 (L : Nat) (xs : Nat → Int32) : zVal L xs 111 72 (.inl (i_c (.int 0) 73)) := zS_iconst d111_72 (by decide)
theorem v111_73 (L : Nat) (xs : Nat → Int32) : zVal L xs 111 73 (.inl (i_k [false, false, false, true, true] (i_is 3 74))) := zS_k (zS_istore_n d111_73 rfl)
theorem v111_74 (L : Nat) (xs : Nat → Int32) : zVal L xs 111 74 (.inl (i_al 0 75)) := zS_aload_n d111_74 rfl
theorem v111_75 (L : Nat) (xs : Nat → Int32) : zVal L xs 111 75 (.inl (i_il 3 76)) := zS_iload_n d111_75 rfl
theorem v111_76 (L : Nat) (xs : Nat → Int32) : zVal L xs 111 76 (.inl (i_f1 (fun x => decide (x = 0)) 95 79)) := zS_if_eq d111_76 (by decide)
theorem v111_79 (L : Nat) (xs : Nat → Int32) : zVal L xs 111 79 (.inl (i_al 0 80)) := zS_aload_n d111_79 rfl
theorem v111_80 (L : Nat) (xs : Nat → Int32) : zVal L xs 111 80 (.inl (i_gf 10 23 83)) := zS_getf d111_80 (zcl10) (by decide) zi10 w801
theorem v111_83 (L : Nat) (xs : Nat → Int32) : zVal L xs 111 83 (.inl (i_f1 (fun x => decide (0 ≤ x)) 95 86)) := zS_if_ge d111_83 (by decide)
theorem v111_86 (L : Nat) (xs : Nat → Int32) : zVal L xs 111 86 (.inl (i_al 0 87)) := zS_aload_n d111_86 rfl
theorem v111_87 (L : Nat) (xs : Nat → Int32) : zVal L xs 111 87 (.inl (i_gf 10 22 90)) := zS_getf d111_87 (zcl10) (by decide) zi10 w800
theorem v111_90 (L : Nat) (xs : Nat → Int32) : zVal L xs 111 90 (.inl (i_c (.int 1) 91)) := zS_iconst d111_90 (by decide)
theorem v111_91 (L : Nat) (xs : Nat → Int32) : zVal L xs 111 91 (.inl (i_bi (fun x y => x + y) 92)) := zS_iadd d111_91
theorem v111_92 (L : Nat) (xs : Nat → Int32) : zVal L xs 111 92 (.inl (i_go 99)) := zS_goto d111_92 (by decide)
theorem v111_95 (L : Nat) (xs : Nat → Int32) : zVal L xs 111 95 (.inl (i_k [false, false, false, false, true] (i_al 0 96))) := zS_k (zS_aload_n d111_95 rfl)
theorem v111_96 (L : Nat) (xs : Nat → Int32) : zVal L xs 111 96 (.inl (i_gf 10 22 99)) := zS_getf d111_96 (zcl10) (by decide) zi10 w800
theorem v111_99 (L : Nat) (xs : Nat → Int32) : zVal L xs 111 99 (.inl (i_k [false, false, false, false, true] (i_pf 10 22 okI 102))) := zS_k (zS_putf (ty := .int) d111_99 (zcl10) (by decide) zi10 w800 zy10 zn10 (by decide +kernel) (by decide +kernel) okI_ok)
theorem v111_102 (L : Nat) (xs : Nat → Int32) : zVal L xs 111 102 (.inl (i_go 16)) := zS_goto d111_102 (by decide)
theorem v111_105 (L : Nat) (xs : Nat → Int32) : zVal L xs 111 105 (.inl (i_k [false, true, true, true, true] (i_al 0 106))) := zS_k (zS_aload_n d111_105 rfl)
theorem v111_106 (L : Nat) (xs : Nat → Int32) : zVal L xs 111 106 (.inl (i_gf 10 23 109)) := zS_getf d111_106 (zcl10) (by decide) zi10 w801
theorem v111_109 (L : Nat) (xs : Nat → Int32) : zVal L xs 111 109 (.inl (i_f1 (fun x => decide (0 ≤ x)) 122 112)) := zS_if_ge d111_109 (by decide)
theorem v111_112 (L : Nat) (xs : Nat → Int32) : zVal L xs 111 112 (.inl (i_al 0 113)) := zS_aload_n d111_112 rfl
theorem v111_113 (L : Nat) (xs : Nat → Int32) : zVal L xs 111 113 (.inl (i_c (.int 10) 115)) := zS_bipush d111_113 (by decide)
theorem v111_115 (L : Nat) (xs : Nat → Int32) : zVal L xs 111 115 (.inl (i_c (.int 10) 117)) := zS_bipush d111_115 (by decide)
theorem v111_117 (L : Nat) (xs : Nat → Int32) : zVal L xs 111 117 (.inr (.inl (109, 3, 11))) := ⟨by decide +kernel, by decide +kernel, zc_virt d111_117 zcl10 w987 w984 w986 w43 w85 ⟨by decide +kernel, by decide +kernel, by decide +kernel⟩ (by decide) (by decide)⟩
theorem v111_120 (L : Nat) (xs : Nat → Int32) : zVal L xs 111 120 (.inl (i_is 4 122)) := zS_istore d111_120
theorem v111_122 (L : Nat) (xs : Nat → Int32) : zVal L xs 111 122 (.inr (.inr 0)) := zr_0 d111_122 rfl
theorem vt111 (L : Nat) (xs : Nat → Int32) : zAll (fun x => zVal L xs 111 x.1 x.2) (tb111) := ⟨v111_0 L xs, v111_1 L xs, v111_4 L xs, v111_5 L xs, v111_6 L xs, v111_7 L xs, v111_8 L xs, v111_11 L xs, v111_12 L xs, v111_13 L xs, v111_14 L xs, v111_15 L xs, v111_16 L xs, v111_17 L xs, v111_20 L xs, v111_23 L xs, v111_24 L xs, v111_27 L xs, v111_28 L xs, v111_31 L xs, v111_34 L xs, v111_37 L xs, v111_38 L xs, v111_41 L xs, v111_42 L xs, v111_43 L xs, v111_44 L xs, v111_47 L xs, v111_48 L xs, v111_51 L xs, v111_54 L xs, v111_55 L xs, v111_56 L xs, v111_59 L xs, v111_60 L xs, v111_63 L xs, v111_65 L xs, v111_68 L xs, v111_69 L xs, v111_72 L xs, v111_73 L xs, v111_74 L xs, v111_75 L xs, v111_76 L xs, v111_79 L xs, v111_80 L xs, v111_83 L xs, v111_86 L xs, v111_87 L xs, v111_90 L xs, v111_91 L xs, v111_92 L xs, v111_95 L xs, v111_96 L xs, v111_99 L xs, v111_102 L xs, v111_105 L xs, v111_106 L xs, v111_109 L xs, v111_112 L xs, v111_113 L xs, v111_115 L xs, v111_117 L xs, v111_120 L xs, v111_122 L xs, trivial⟩
theorem d112_0 : decode (mB 112) 0 = .ok (.aload_n 0, 1) := by decide +kernel
theorem d112_1 : decode (mB 112) 1 = .ok (.getfield 37, 3) := by decide +kernel
theorem d112_4 : decode (mB 112) 4 = .ok (.iload_n 1, 1) := by decide +kernel
theorem d112_5 : decode (mB 112) 5 = .ok (.iaload, 1) := by decide +kernel
theorem d112_6 : decode (mB 112) 6 = .ok (.ifCond .le 8, 3) := by decide +kernel
theorem d112_9 : decode (mB 112) 9 = .ok (.aload_n 0, 1) := by decide +kernel
theorem d112_10 : decode (mB 112) 10 = .ok (.invokevirtual 166, 3) := by decide +kernel
theorem d112_13 : decode (mB 112) 13 = .ok (.return_, 1) := by decide +kernel
theorem d112_14 : decode (mB 112) 14 = .ok (.aload_n 0, 1) := by decide +kernel
theorem d112_15 : decode (mB 112) 15 = .ok (.dup, 1) := by decide +kernel
theorem d112_16 : decode (mB 112) 16 = .ok (.getfield 159, 3) := by decide +kernel
theorem d112_19 : decode (mB 112) 19 = .ok (.iconst 1, 1) := by decide +kernel
theorem d112_20 : decode (mB 112) 20 = .ok (.iadd, 1) := by decide +kernel
theorem d112_21 : decode (mB 112) 21 = .ok (.putfield 159, 3) := by decide +kernel
theorem d112_24 : decode (mB 112) 24 = .ok (.aload_n 0, 1) := by decide +kernel
theorem d112_25 : decode (mB 112) 25 = .ok (.bipush 49, 2) := by decide +kernel
theorem d112_27 : decode (mB 112) 27 = .ok (.bipush 57, 2) := by decide +kernel
theorem d112_29 : decode (mB 112) 29 = .ok (.invokevirtual 172, 3) := by decide +kernel
theorem d112_32 : decode (mB 112) 32 = .ok (.istore_n 2, 1) := by decide +kernel
theorem d112_33 : decode (mB 112) 33 = .ok (.aload_n 0, 1) := by decide +kernel
theorem d112_34 : decode (mB 112) 34 = .ok (.getfield 58, 3) := by decide +kernel
theorem d112_37 : decode (mB 112) 37 = .ok (.ifCond .ge 14, 3) := by decide +kernel
theorem d112_40 : decode (mB 112) 40 = .ok (.aload_n 0, 1) := by decide +kernel
theorem d112_41 : decode (mB 112) 41 = .ok (.bipush 49, 2) := by decide +kernel
theorem d112_43 : decode (mB 112) 43 = .ok (.bipush 57, 2) := by decide +kernel
theorem d112_45 : decode (mB 112) 45 = .ok (.invokevirtual 172, 3) := by decide +kernel
theorem d112_48 : decode (mB 112) 48 = .ok (.goto 4, 3) := by decide +kernel
theorem d112_51 : decode (mB 112) 51 = .ok (.iconst 0, 1) := by decide +kernel
theorem d112_52 : decode (mB 112) 52 = .ok (.istore_n 3, 1) := by decide +kernel
theorem d112_53 : decode (mB 112) 53 = .ok (.aload_n 0, 1) := by decide +kernel
theorem d112_54 : decode (mB 112) 54 = .ok (.getfield 58, 3) := by decide +kernel
theorem d112_57 : decode (mB 112) 57 = .ok (.ifCond .ge 14, 3) := by decide +kernel
theorem d112_60 : decode (mB 112) 60 = .ok (.aload_n 0, 1) := by decide +kernel
theorem d112_61 : decode (mB 112) 61 = .ok (.bipush 10, 2) := by decide +kernel
theorem d112_63 : decode (mB 112) 63 = .ok (.bipush 10, 2) := by decide +kernel
theorem d112_65 : decode (mB 112) 65 = .ok (.invokevirtual 172, 3) := by decide +kernel
theorem d112_68 : decode (mB 112) 68 = .ok (.goto 4, 3) := by decide +kernel
theorem d112_71 : decode (mB 112) 71 = .ok (.iconst 0, 1) := by decide +kernel
theorem d112_72 : decode (mB 112) 72 = .ok (.istore 4, 2) := by decide +kernel
theorem d112_74 : decode (mB 112) 74 = .ok (.aload_n 0, 1) := by decide +kernel
theorem d112_75 : decode (mB 112) 75 = .ok (.getfield 37, 3) := by decide +kernel
theorem d112_78 : decode (mB 112) 78 = .ok (.iload_n 1, 1) := by decide +kernel
theorem d112_79 : decode (mB 112) 79 = .ok (.iload_n 2, 1) := by decide +kernel
theorem d112_80 : decode (mB 112) 80 = .ok (.bipush 48, 2) := by decide +kernel
theorem d112_82 : decode (mB 112) 82 = .ok (.isub, 1) := by decide +kernel
theorem d112_83 : decode (mB 112) 83 = .ok (.iastore, 1) := by decide +kernel
theorem d112_84 : decode (mB 112) 84 = .ok (.aload_n 0, 1) := by decide +kernel
theorem d112_85 : decode (mB 112) 85 = .ok (.getfield 40, 3) := by decide +kernel
theorem d112_88 : decode (mB 112) 88 = .ok (.iload_n 1, 1) := by decide +kernel
theorem d112_89 : decode (mB 112) 89 = .ok (.iload_n 3, 1) := by decide +kernel
theorem d112_90 : decode (mB 112) 90 = .ok (.bipush 48, 2) := by decide +kernel
theorem d112_92 : decode (mB 112) 92 = .ok (.isub, 1) := by decide +kernel
theorem d112_93 : decode (mB 112) 93 = .ok (.iastore, 1) := by decide +kernel
theorem d112_94 : decode (mB 112) 94 = .ok (.return_, 1) := by decide +kernel
theorem v112_0 (L : Nat) (xs : Nat → Int32) : zVal L xs 112 0 (.inl (i_al 0 1)) := zS_aload_n d112_0 rfl
theorem v112_1 (L : Nat) (xs : Nat → Int32) : zVal L xs 112 1 (.inl (i_gf 10 15 4)) := zS_getf d112_1 (zcl10) (by decide) zi10 w793
theorem v112_4 (L : Nat) (xs : Nat → Int32) : zVal L xs 112 4 (.inl (i_il 1 5)) := zS_iload_n d112_4 rfl
theorem v112_5 (L : Nat) (xs : Nat → Int32) : zVal L xs 112 5 (.inl (i_ga 0 6)) := zS_iald d112_5
theorem v112_6 (L : Nat) (xs : Nat → Int32) : zVal L xs 112 6 (.inl (i_f1 (fun x => decide (x ≤ 0)) 14 9)) := zS_if_le d112_6 (by decide)
theorem v112_9 (L : Nat) (xs : Nat → Int32) : zVal L xs 112 9 (.inl (i_al 0 10)) := zS_aload_n d112_9 rfl
theorem v112_10 (L : Nat) (xs : Nat → Int32) : zVal L xs 112 10 (.inr (.inl (108, 1, 11))) := ⟨by decide +kernel, by decide +kernel, zc_virt d112_10 zcl10 w983 w980 w982 w42 w85 ⟨by decide +kernel, by decide +kernel, by decide +kernel⟩ (by decide) (by decide)⟩
theorem v112_13 (L : Nat) (xs : Nat → Int32) : zVal L xs 112 13 (.inr (.inr 0)) := zr_0 d112_13 rfl
theorem v112_14 (L : Nat) (xs : Nat → Int32) : zVal L xs 112 14 (.inl (i_al 0 15)) := zS_aload_n d112_14 rfl
theorem v112_15 (L : Nat) (xs : Nat → Int32) : zVal L xs 112 15 (.inl (i_dup 16)) := zS_dup d112_15
theorem v112_16 (L : Nat) (xs : Nat → Int32) : zVal L xs 112 16 (.inl (i_gf 10 22 19)) := zS_getf d112_16 (zcl10) (by decide) zi10 w800
theorem v112_19 (L : Nat) (xs : Nat → Int32) : zVal L xs 112 19 (.inl (i_c (.int 1) 20)) := zS_iconst d112_19 (by decide)
theorem v112_20 (L : Nat) (xs : Nat → Int32) : zVal L xs 112 20 (.inl (i_bi (fun x y => x + y) 21)) := zS_iadd d112_20
theorem v112_21 (L : Nat) (xs : Nat → Int32) : zVal L xs 112 21 (.inl (i_pf 10 22 okI 24)) := zS_putf (ty := .int) d112_21 (zcl10) (by decide) zi10 w800 zy10 zn10 (by decide +kernel) (by decide +kernel) okI_ok
theorem v112_24 (L : Nat) (xs : Nat → Int32) : zVal L xs 112 24 (.inl (i_al 0 25)) := zS_aload_n d112_24 rfl
theorem v112_25 (L : Nat) (xs : Nat → Int32) : zVal L xs 112 25 (.inl (i_c (.int 49) 27)) := zS_bipush d112_25 (by decide)
theorem v112_27 (L : Nat) (xs : Nat → Int32) : zVal L xs 112 27 (.inl (i_c (.int 57) 29)) := zS_bipush d112_27 (by decide)
theorem v112_29 (L : Nat) (xs : Nat → Int32) : zVal L xs 112 29 (.inr (.inl (109, 3, 11))) := ⟨by decide +kernel, by decide +kernel, zc_virt d112_29 zcl10 w987 w984 w986 w43 w85 ⟨by decide +kernel, by decide +kernel, by decide +kernel⟩ (by decide) (by decide)⟩
theorem v112_32 (L : Nat) (xs : Nat → Int32) : zVal L xs 112 32 (.inl (i_is 2 33)) := zS_istore_n d112_32 rfl
theorem v112_33 (L : Nat) (xs : Nat → Int32) : zVal L xs 112 33 (.inl (i_al 0 34)) := zS_aload_n d112_33 rfl
theorem v112_34 (L : Nat) (xs : Nat → Int32) : zVal L xs 112 34 (.inl (i_gf 10 23 37)) := zS_getf d112_34 (zcl10) (by decide) zi10 w801
theorem v112_37 (L : Nat) (xs : Nat → Int32) : zVal L xs 112 37 (.inl (i_f1 (fun x => decide (0 ≤ x)) 51 40)) := zS_if_ge d112_37 (by decide)
theorem v112_40 (L : Nat) (xs : Nat → Int32) : zVal L xs 112 40 (.inl (i_al 0 41)) := zS_aload_n d112_40 rfl
theorem v112_41 (L : Nat) (xs : Nat → Int32) : zVal L xs 112 41 (.inl (i_c (.int 49) 43)) := zS_bipush d112_41 (by decide)
theorem v112_43 (L : Nat) (xs : Nat → Int32) : zVal L xs 112 43 (.inl (i_c (.int 57) 45)) := zS_bipush d112_43 (by decide)
theorem v112_45 (L : Nat) (xs : Nat → Int32) : zVal L xs 112 45 (.inr (.inl (109, 3, 11))) := ⟨by decide +kernel, by decide +kernel, zc_virt d112_45 zcl10 w987 w984 w986 w43 w85 ⟨by decide +kernel, by decide +kernel, by decide +kernel⟩ (by decide) (by decide)⟩
theorem v112_48 (L : Nat) (xs : Nat → Int32) : zVal L xs 112 48 (.inl (i_go 52)) := zS_goto d112_48 (by decide)
theorem v112_51 (L : Nat) (xs : Nat → Int32) : zVal L xs 112 51 (.inl (i_c (.int 0) 52)) := zS_iconst d112_51 (by decide)
theorem v112_52 (L : Nat) (xs : Nat → Int32) : zVal L xs 112 52 (.inl (i_k [false, false, false, true, true] (i_is 3 53))) := zS_k (zS_istore_n d112_52 rfl)
theorem v112_53 (L : Nat) (xs : Nat → Int32) : zVal L xs 112 53 (.inl (i_al 0 54)) := zS_aload_n d112_53 rfl
theorem v112_54 (L : Nat) (xs : Nat → Int32) : zVal L xs 112 54 (.inl (i_gf 10 23 57)) := zS_getf d112_54 (zcl10) (by decide) zi10 w801
theorem v112_57 (L : Nat) (xs : Nat → Int32) : zVal L xs 112 57 (.inl (i_f1 (fun x => decide (0 ≤ x)) 71 60)) := zS_if_ge d112_57 (by decide)
theorem v112_60 (L : Nat) (xs : Nat → Int32) : zVal L xs 112 60 (.inl (i_al 0 61)) := zS_aload_n d112_60 rfl
theorem v112_61 (L : Nat) (xs : Nat → Int32) : zVal L xs 112 61 (.inl (i_c (.int 10) 63)) := zS_bipush d112_61 (by decide)
theorem v112_63 (L : Nat) (xs : Nat → Int32) : zVal L xs 112 63 (.inl (i_c (.int 10) 65)) := zS_bipush d112_63 (by decide)
theorem v112_65 (L : Nat) (xs : Nat → Int32) : zVal L xs 112 65 (.inr (.inl (109, 3, 11))) := ⟨by decide +kernel, by decide +kernel, zc_virt d112_65 zcl10 w987 w984 w986 w43 w85 ⟨by decide +kernel, by decide +kernel, by decide +kernel⟩ (by decide) (by decide)⟩
theorem v112_68 (L : Nat) (xs : Nat → Int32) : zVal L xs 112 68 (.inl (i_go 72)) := zS_goto d112_68 (by decide)
theorem v112_71 (L : Nat) (xs : Nat → Int32) : zVal L xs 112 71 (.inl (i_c (.int 0) 72)) := zS_iconst d112_71 (by decide)
theorem v112_72 (L : Nat) (xs : Nat → Int32) : zVal L xs 112 72 (.inl (i_k [false, false, false, false, true] (i_is 4 74))) := zS_k (zS_istore d112_72)
theorem v112_74 (L : Nat) (xs : Nat → Int32) : zVal L xs 112 74 (.inl (i_al 0 75)) := zS_aload_n d112_74 rfl
theorem v112_75 (L : Nat) (xs : Nat → Int32) : zVal L xs 112 75 (.inl (i_gf 10 15 78)) := zS_getf d112_75 (zcl10) (by decide) zi10 w793
theorem v112_78 (L : Nat) (xs : Nat → Int32) : zVal L xs 112 78 (.inl (i_il 1 79)) := zS_iload_n d112_78 rfl
theorem v112_79 (L : Nat) (xs : Nat → Int32) : zVal L xs 112 79 (.inl (i_il 2 80)) := zS_iload_n d112_79 rfl
theorem v112_80 (L : Nat) (xs : Nat → Int32) : zVal L xs 112 80 (.inl (i_c (.int 48) 82)) := zS_bipush d112_80 (by decide)
theorem v112_82 (L : Nat) (xs : Nat → Int32) : zVal L xs 112 82 (.inl (i_bi (fun x y => x - y) 83)) := zS_isub d112_82
theorem v112_83 (L : Nat) (xs : Nat → Int32) : zVal L xs 112 83 (.inl (i_pa 0 (fun x => x) 84)) := zS_iast d112_83
theorem v112_84 (L : Nat) (xs : Nat → Int32) : zVal L xs 112 84 (.inl (i_al 0 85)) := zS_aload_n d112_84 rfl
theorem v112_85 (L : Nat) (xs : Nat → Int32) : zVal L xs 112 85 (.inl (i_gf 10 16 88)) := zS_getf d112_85 (zcl10) (by decide) zi10 w794
theorem v112_88 (L : Nat) (xs : Nat → Int32) : zVal L xs 112 88 (.inl (i_il 1 89)) := zS_iload_n d112_88 rfl
theorem v112_89 (L : Nat) (xs : Nat → Int32) : zVal L xs 112 89 (.inl (i_il 3 90)) := zS_iload_n d112_89 rfl
theorem v112_90 (L : Nat) (xs : Nat → Int32) : zVal L xs 112 90 (.inl (i_c (.int 48) 92)) := zS_bipush d112_90 (by decide)
theorem v112_92 (L : Nat) (xs : Nat → Int32) : zVal L xs 112 92 (.inl (i_bi (fun x y => x - y) 93)) := zS_isub d112_92
theorem v112_93 (L : Nat) (xs : Nat → Int32) : zVal L xs 112 93 (.inl (i_pa 0 (fun x => x) 94)) := zS_iast d112_93
theorem v112_94 (L : Nat) (xs : Nat → Int32) : zVal L xs 112 94 (.inr (.inr 0)) := zr_0 d112_94 rfl
theorem vt112 (L : Nat) (xs : Nat → Int32) : zAll (fun x => zVal L xs 112 x.1 x.2) (tb112) := ⟨v112_0 L xs, v112_1 L xs, v112_4 L xs, v112_5 L xs, v112_6 L xs, v112_9 L xs, v112_10 L xs, v112_13 L xs, v112_14 L xs, v112_15 L xs, v112_16 L xs, v112_19 L xs, v112_20 L xs, v112_21 L xs, v112_24 L xs, v112_25 L xs, v112_27 L xs, v112_29 L xs, v112_32 L xs, v112_33 L xs, v112_34 L xs, v112_37 L xs, v112_40 L xs, v112_41 L xs, v112_43 L xs, v112_45 L xs, v112_48 L xs, v112_51 L xs, v112_52 L xs, v112_53 L xs, v112_54 L xs, v112_57 L xs, v112_60 L xs, v112_61 L xs, v112_63 L xs, v112_65 L xs, v112_68 L xs, v112_71 L xs, v112_72 L xs, v112_74 L xs, v112_75 L xs, v112_78 L xs, v112_79 L xs, v112_80 L xs, v112_82 L xs, v112_83 L xs, v112_84 L xs, v112_85 L xs, v112_88 L xs, v112_89 L xs, v112_90 L xs, v112_92 L xs, v112_93 L xs, v112_94 L xs, trivial⟩
