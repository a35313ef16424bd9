theorem d26_0 : decode (mB 26) 0 = .ok (.iconst 0, 1) := by decide +kernel
theorem d26_1 : decode (mB 26) 1 = .ok (.istore_n 3, 1) := by decide +kernel
theorem d26_2 : decode (mB 26) 2 = .ok (.iconst 1, 1) := by decide +kernel
theorem d26_3 : decode (mB 26) 3 = .ok (.istore 4, 2) := by decide +kernel
theorem d26_5 : decode (mB 26) 5 = .ok (.iload 4, 2) := by decide +kernel
theorem d26_7 : decode (mB 26) 7 = .ok (.aload_n 0, 1) := by decide +kernel
theorem d26_8 : decode (mB 26) 8 = .ok (.getfield 55, 3) := by decide +kernel
theorem d26_11 : decode (mB 26) 11 = .ok (.if_icmp .gt 64, 3) := by decide +kernel
theorem d26_14 : decode (mB 26) 14 = .ok (.aload_n 0, 1) := by decide +kernel
theorem d26_15 : decode (mB 26) 15 = .ok (.getfield 22, 3) := by decide +kernel
theorem d26_18 : decode (mB 26) 18 = .ok (.iload 4, 2) := by decide +kernel
theorem d26_20 : decode (mB 26) 20 = .ok (.iconst 0, 1) := by decide +kernel
theorem d26_21 : decode (mB 26) 21 = .ok (.iastore, 1) := by decide +kernel
theorem d26_22 : decode (mB 26) 22 = .ok (.iload 4, 2) := by decide +kernel
theorem d26_24 : decode (mB 26) 24 = .ok (.aload_n 0, 1) := by decide +kernel
theorem d26_25 : decode (mB 26) 25 = .ok (.getfield 55, 3) := by decide +kernel
theorem d26_28 : decode (mB 26) 28 = .ok (.if_icmp .eq 14, 3) := by decide +kernel
theorem d26_31 : decode (mB 26) 31 = .ok (.aload_n 1, 1) := by decide +kernel
theorem d26_32 : decode (mB 26) 32 = .ok (.iload_n 2, 1) := by decide +kernel
theorem d26_33 : decode (mB 26) 33 = .ok (.iload 4, 2) := by decide +kernel
theorem d26_35 : decode (mB 26) 35 = .ok (.iadd, 1) := by decide +kernel
theorem d26_36 : decode (mB 26) 36 = .ok (.caload, 1) := by decide +kernel
theorem d26_37 : decode (mB 26) 37 = .ok (.bipush 32, 2) := by decide +kernel
theorem d26_39 : decode (mB 26) 39 = .ok (.if_icmp .ne 30, 3) := by decide +kernel
theorem d26_42 : decode (mB 26) 42 = .ok (.aload_n 0, 1) := by decide +kernel
theorem d26_43 : decode (mB 26) 43 = .ok (.iload_n 3, 1) := by decide +kernel
theorem d26_44 : decode (mB 26) 44 = .ok (.iload 4, 2) := by decide +kernel
theorem d26_46 : decode (mB 26) 46 = .ok (.aload_n 0, 1) := by decide +kernel
theorem d26_47 : decode (mB 26) 47 = .ok (.getfield 12, 3) := by decide +kernel
theorem d26_50 : decode (mB 26) 50 = .ok (.aload_n 1, 1) := by decide +kernel
theorem d26_51 : decode (mB 26) 51 = .ok (.iload_n 2, 1) := by decide +kernel
theorem d26_52 : decode (mB 26) 52 = .ok (.iload_n 3, 1) := by decide +kernel
theorem d26_53 : decode (mB 26) 53 = .ok (.iadd, 1) := by decide +kernel
theorem d26_54 : decode (mB 26) 54 = .ok (.iload_n 2, 1) := by decide +kernel
theorem d26_55 : decode (mB 26) 55 = .ok (.iload 4, 2) := by decide +kernel
theorem d26_57 : decode (mB 26) 57 = .ok (.iadd, 1) := by decide +kernel
theorem d26_58 : decode (mB 26) 58 = .ok (.invokevirtual 84, 3) := by decide +kernel
theorem d26_61 : decode (mB 26) 61 = .ok (.invokevirtual 88, 3) := by decide +kernel
theorem d26_64 : decode (mB 26) 64 = .ok (.iload 4, 2) := by decide +kernel
theorem d26_66 : decode (mB 26) 66 = .ok (.iconst 1, 1) := by decide +kernel
theorem d26_67 : decode (mB 26) 67 = .ok (.iadd, 1) := by decide +kernel
theorem d26_68 : decode (mB 26) 68 = .ok (.istore_n 3, 1) := by decide +kernel
theorem d26_69 : decode (mB 26) 69 = .ok (.iinc 4 1, 3) := by decide +kernel
theorem d26_72 : decode (mB 26) 72 = .ok (.goto (-67), 3) := by decide +kernel
theorem d26_75 : decode (mB 26) 75 = .ok (.aload_n 0, 1) := by decide +kernel
theorem d26_76 : decode (mB 26) 76 = .ok (.getfield 22, 3) := by decide +kernel
theorem d26_79 : decode (mB 26) 79 = .ok (.aload_n 0, 1) := by decide +kernel
theorem d26_80 : decode (mB 26) 80 = .ok (.getfield 55, 3) := by decide +kernel
theorem d26_83 : decode (mB 26) 83 = .ok (.iconst 3, 1) := by decide +kernel
theorem d26_84 : decode (mB 26) 84 = .ok (.iastore, 1) := by decide +kernel
theorem d26_85 : decode (mB 26) 85 = .ok (.return_, 1) := by decide +kernel
theorem v26_0 (L : Nat) (xs : Nat → Int32) : zVal L xs 26 0 (.inl (i_c (.int 0) 1)) := zS_iconst d26_0 (by decide)
theorem v26_1 (L : Nat) (xs : Nat → Int32) : zVal L xs 26 1 (.inl (i_is 3 2)) := zS_istore_n d26_1 rfl
theorem v26_2 (L : Nat) (xs : Nat → Int32) : zVal L xs 26 2 (.inl (i_c (.int 1) 3)) := zS_iconst d26_2 (by decide)
theorem v26_3 (L : Nat) (xs : Nat → Int32) : zVal L xs 26 3 (.inl (i_is 4 5)) := zS_istore d26_3
theorem v26_5 (L : Nat) (xs : Nat → Int32) : zVal L xs 26 5 (.inl (i_k [false, false, false, false, false] (i_il 4 7))) := zS_k (zS_iload d26_5)
theorem v26_7 (L : Nat) (xs : Nat → Int32) : zVal L xs 26 7 (.inl (i_al 0 8)) := zS_aload_n d26_7 rfl
theorem v26_8 (L : Nat) (xs : Nat → Int32) : zVal L xs 26 8 (.inl (i_gf 1 6 11)) := zS_getf d26_8 (zcl1) (by decide) zi1 w308
theorem v26_11 (L : Nat) (xs : Nat → Int32) : zVal L xs 26 11 (.inl (i_f2 (fun x y => decide (y < x)) 75 14)) := zS_icmp_gt d26_11 (by decide)
theorem v26_14 (L : Nat) (xs : Nat → Int32) : zVal L xs 26 14 (.inl (i_al 0 15)) := zS_aload_n d26_14 rfl
theorem v26_15 (L : Nat) (xs : Nat → Int32) : zVal L xs 26 15 (.inl (i_gf 1 3 18)) := zS_getf d26_15 (zcl1) (by decide) zi1 w305
theorem v26_18 (L : Nat) (xs : Nat → Int32) : zVal L xs 26 18 (.inl (i_il 4 20)) := zS_iload d26_18
theorem v26_20 (L : Nat) (xs : Nat → Int32) : zVal L xs 26 20 (.inl (i_c (.int 0) 21)) := zS_iconst d26_20 (by decide)
theorem v26_21 (L : Nat) (xs : Nat → Int32) : zVal L xs 26 21 (.inl (i_pa 0 (fun x => x) 22)) := zS_iast d26_21
theorem v26_22 (L : Nat) (xs : Nat → Int32) : zVal L xs 26 22 (.inl (i_il 4 24)) := zS_iload d26_22
theorem v26_24 (L : Nat) (xs : Nat → Int32) : zVal L xs 26 24 (.inl (i_al 0 25)) := zS_aload_n d26_24 rfl
theorem v26_25 (L : Nat) (xs : Nat → Int32) : zVal L xs 26 25 (.inl (i_gf 1 6 28)) := zS_getf d26_25 (zcl1) (by decide) zi1 w308
theorem v26_28 (L : Nat) (xs : Nat → Int32) : zVal L xs 26 28 (.inl (i_f2 (fun x y => decide (x = y)) 42 31)) := zS_icmp_eq d26_28 (by decide)
theorem v26_31 (L : Nat) (xs : Nat → Int32) : zVal L xs 26 31 (.inl (i_al 1 32)) := zS_aload_n d26_31 rfl
theorem v26_32 (L : Nat) (xs : Nat → Int32) : zVal L xs 26 32 (.inl (i_il 2 33)) := zS_iload_n d26_32 rfl
theorem v26_33 (L : Nat) (xs : Nat → Int32) : zVal L xs 26 33 (.inl (i_il 4 35)) := zS_iload d26_33
theorem v26_35 (L : Nat) (xs : Nat → Int32) : zVal L xs 26 35 (.inl (i_bi (fun x y => x + y) 36)) := zS_iadd d26_35
theorem v26_36 (L : Nat) (xs : Nat → Int32) : zVal L xs 26 36 (.inl (i_ga 2 37)) := zS_cald d26_36
theorem v26_37 (L : Nat) (xs : Nat → Int32) : zVal L xs 26 37 (.inl (i_c (.int 32) 39)) := zS_bipush d26_37 (by decide)
theorem v26_39 (L : Nat) (xs : Nat → Int32) : zVal L xs 26 39 (.inl (i_f2 (fun x y => decide (¬ x = y)) 69 42)) := zS_icmp_ne d26_39 (by decide)
theorem v26_42 (L : Nat) (xs : Nat → Int32) : zVal L xs 26 42 (.inl (i_k [false, false, false, false, false] (i_al 0 43))) := zS_k (zS_aload_n d26_42 rfl)
theorem v26_43 (L : Nat) (xs : Nat → Int32) : zVal L xs 26 43 (.inl (i_il 3 44)) := zS_iload_n d26_43 rfl
theorem v26_44 (L : Nat) (xs : Nat → Int32) : zVal L xs 26 44 (.inl (i_il 4 46)) := zS_iload d26_44
theorem v26_46 (L : Nat) (xs : Nat → Int32) : zVal L xs 26 46 (.inl (i_al 0 47)) := zS_aload_n d26_46 rfl
theorem v26_47 (L : Nat) (xs : Nat → Int32) : zVal L xs 26 47 (.inl (i_gf 1 0 50)) := zS_getf d26_47 (zcl1) (by decide) zi1 w301
theorem v26_50 (L : Nat) (xs : Nat → Int32) : zVal L xs 26 50 (.inl (i_al 1 51)) := zS_aload_n d26_50 rfl
theorem v26_51 (L : Nat) (xs : Nat → Int32) : zVal L xs 26 51 (.inl (i_il 2 52)) := zS_iload_n d26_51 rfl
theorem v26_52 (L : Nat) (xs : Nat → Int32) : zVal L xs 26 52 (.inl (i_il 3 53)) := zS_iload_n d26_52 rfl
theorem v26_53 (L : Nat) (xs : Nat → Int32) : zVal L xs 26 53 (.inl (i_bi (fun x y => x + y) 54)) := zS_iadd d26_53
theorem v26_54 (L : Nat) (xs : Nat → Int32) : zVal L xs 26 54 (.inl (i_il 2 55)) := zS_iload_n d26_54 rfl
theorem v26_55 (L : Nat) (xs : Nat → Int32) : zVal L xs 26 55 (.inl (i_il 4 57)) := zS_iload d26_55
theorem v26_57 (L : Nat) (xs : Nat → Int32) : zVal L xs 26 57 (.inl (i_bi (fun x y => x + y) 58)) := zS_iadd d26_57
theorem v26_58 (L : Nat) (xs : Nat → Int32) : zVal L xs 26 58 (.inr (.inl (53, 4, 6))) := ⟨by decide +kernel, by decide +kernel, zc_virt d26_58 zcl5 w472 w571 w470 w471 w79 ⟨by decide +kernel, by decide +kernel, by decide +kernel⟩ (by decide) (by decide)⟩
theorem v26_61 (L : Nat) (xs : Nat → Int32) : zVal L xs 26 61 (.inr (.inl (27, 4, 2))) := ⟨by decide +kernel, by decide +kernel, zc_virt d26_61 zcl1 w575 w572 w574 w11 w78 ⟨by decide +kernel, by decide +kernel, by decide +kernel⟩ (by decide) (by decide)⟩
theorem v26_64 (L : Nat) (xs : Nat → Int32) : zVal L xs 26 64 (.inl (i_il 4 66)) := zS_iload d26_64
theorem v26_66 (L : Nat) (xs : Nat → Int32) : zVal L xs 26 66 (.inl (i_c (.int 1) 67)) := zS_iconst d26_66 (by decide)
theorem v26_67 (L : Nat) (xs : Nat → Int32) : zVal L xs 26 67 (.inl (i_bi (fun x y => x + y) 68)) := zS_iadd d26_67
theorem v26_68 (L : Nat) (xs : Nat → Int32) : zVal L xs 26 68 (.inl (i_is 3 69)) := zS_istore_n d26_68 rfl
theorem v26_69 (L : Nat) (xs : Nat → Int32) : zVal L xs 26 69 (.inl (i_k [false, false, false, false, false] (i_in 4 1 72))) := zS_k (zS_iinc d26_69 (by decide))
theorem v26_72 (L : Nat) (xs : Nat → Int32) : zVal L xs 26 72 (.inl (i_go 5)) := zS_goto d26_72 (by decide)
theorem v26_75 (L : Nat) (xs : Nat → Int32) : zVal L xs 26 75 (.inl (i_al 0 76)) := zS_aload_n d26_75 rfl
theorem v26_76 (L : Nat) (xs : Nat → Int32) : zVal L xs 26 76 (.inl (i_gf 1 3 79)) := zS_getf d26_76 (zcl1) (by decide) zi1 w305
theorem v26_79 (L : Nat) (xs : Nat → Int32) : zVal L xs 26 79 (.inl (i_al 0 80)) := zS_aload_n d26_79 rfl
theorem v26_80 (L : Nat) (xs : Nat → Int32) : zVal L xs 26 80 (.inl (i_gf 1 6 83)) := zS_getf d26_80 (zcl1) (by decide) zi1 w308
theorem v26_83 (L : Nat) (xs : Nat → Int32) : zVal L xs 26 83 (.inl (i_c (.int 3) 84)) := zS_iconst d26_83 (by decide)
theorem v26_84 (L : Nat) (xs : Nat → Int32) : zVal L xs 26 84 (.inl (i_pa 0 (fun x => x) 85)) := zS_iast d26_84
theorem v26_85 (L : Nat) (xs : Nat → Int32) : zVal L xs 26 85 (.inr (.inr 0)) := zr_0 d26_85 rfl
theorem vt26 (L : Nat) (xs : Nat → Int32) : zAll (fun x => zVal L xs 26 x.1 x.2) (tb26) := ⟨v26_0 L xs, v26_1 L xs, v26_2 L xs, v26_3 L xs, v26_5 L xs, v26_7 L xs, v26_8 L xs, v26_11 L xs, v26_14 L xs, v26_15 L xs, v26_18 L xs, v26_20 L xs, v26_21 L xs, v26_22 L xs, v26_24 L xs, v26_25 L xs, v26_28 L xs, v26_31 L xs, v26_32 L xs, v26_33 L xs, v26_35 L xs, v26_36 L xs, v26_37 L xs, v26_39 L xs, v26_42 L xs, v26_43 L xs, v26_44 L xs, v26_46 L xs, v26_47 L xs, v26_50 L xs, v26_51 L xs, v26_52 L xs, v26_53 L xs, v26_54 L xs, v26_55 L xs, v26_57 L xs, v26_58 L xs, v26_61 L xs, v26_64 L xs, v26_66 L xs, v26_67 L xs, v26_68 L xs, v26_69 L xs, v26_72 L xs, v26_75 L xs, v26_76 L xs, v26_79 L xs, v26_80 L xs, v26_83 L xs, v26_84 L xs, v26_85 L xs, trivial⟩
theorem d27_0 : decode (mB 27) 0 = .ok (.iload_n 1, 1) := by decide +kernel
theorem d27_1 : decode (mB 27) 1 = .ok (.iconst 1, 1) := by decide +kernel
theorem d27_2 : decode (mB 27) 2 = .ok (.iadd, 1) := by decide +kernel
theorem d27_3 : decode (mB 27) 3 = .ok (.istore 4, 2) := by decide +kernel
theorem d27_5 : decode (mB 27) 5 = .ok (.iload 4, 2) := by decide +kernel
theorem d27_7 : decode (mB 27) 7 = .ok (.iload_n 2, 1) := by decide +kernel
theorem d27_8 : decode (mB 27) 8 = .ok (.if_icmp .ge 29, 3) := by decide +kernel
theorem d27_11 : decode (mB 27) 11 = .ok (.iload_n 3, 1) := by decide +kernel
theorem d27_12 : decode (mB 27) 12 = .ok (.i2l, 1) := by decide +kernel
theorem d27_13 : decode (mB 27) 13 = .ok (.iload 4, 2) := by decide +kernel
theorem d27_15 : decode (mB 27) 15 = .ok (.iload_n 1, 1) := by decide +kernel
theorem d27_16 : decode (mB 27) 16 = .ok (.isub, 1) := by decide +kernel
theorem d27_17 : decode (mB 27) 17 = .ok (.invokestatic 92, 3) := by decide +kernel
theorem d27_20 : decode (mB 27) 20 = .ok (.ifCond .eq 11, 3) := by decide +kernel
theorem d27_23 : decode (mB 27) 23 = .ok (.aload_n 0, 1) := by decide +kernel
theorem d27_24 : decode (mB 27) 24 = .ok (.getfield 22, 3) := by decide +kernel
theorem d27_27 : decode (mB 27) 27 = .ok (.iload 4, 2) := by decide +kernel
theorem d27_29 : decode (mB 27) 29 = .ok (.iconst 2, 1) := by decide +kernel
theorem d27_30 : decode (mB 27) 30 = .ok (.iastore, 1) := by decide +kernel
theorem d27_31 : decode (mB 27) 31 = .ok (.iinc 4 1, 3) := by decide +kernel
theorem d27_34 : decode (mB 27) 34 = .ok (.goto (-29), 3) := by decide +kernel
theorem d27_37 : decode (mB 27) 37 = .ok (.aload_n 0, 1) := by decide +kernel
theorem d27_38 : decode (mB 27) 38 = .ok (.getfield 22, 3) := by decide +kernel
theorem d27_41 : decode (mB 27) 41 = .ok (.iload_n 2, 1) := by decide +kernel
theorem d27_42 : decode (mB 27) 42 = .ok (.iconst 1, 1) := by decide +kernel
theorem d27_43 : decode (mB 27) 43 = .ok (.iastore, 1) := by decide +kernel
theorem d27_44 : decode (mB 27) 44 = .ok (.return_, 1) := by decide +kernel
theorem v27_0 (L : Nat) (xs : Nat → Int32) : zVal L xs 27 0 (.inl (i_il 1 1)) := zS_iload_n d27_0 rfl
theorem v27_1 (L : Nat) (xs : Nat → Int32) : zVal L xs 27 1 (.inl (i_c (.int 1) 2)) := zS_iconst d27_1 (by decide)
theorem v27_2 (L : Nat) (xs : Nat → Int32) : zVal L xs 27 2 (.inl (i_bi (fun x y => x + y) 3)) := zS_iadd d27_2
theorem v27_3 (L : Nat) (xs : Nat → Int32) : zVal L xs 27 3 (.inl (i_is 4 5)) := zS_istore d27_3
theorem v27_5 (L : Nat) (xs : Nat → Int32) : zVal L xs 27 5 (.inl (i_k [false, false, false, false, false] (i_il 4 7))) := zS_k (zS_iload d27_5)
theorem v27_7 (L : Nat) (xs : Nat → Int32) : zVal L xs 27 7 (.inl (i_il 2 8)) := zS_iload_n d27_7 rfl
theorem v27_8 (L : Nat) (xs : Nat → Int32) : zVal L xs 27 8 (.inl (i_f2 (fun x y => decide (y ≤ x)) 37 11)) := zS_icmp_ge d27_8 (by decide)
theorem v27_11 (L : Nat) (xs : Nat → Int32) : zVal L xs 27 11 (.inl (i_il 3 12)) := zS_iload_n d27_11 rfl
theorem v27_12 (L : Nat) (xs : Nat → Int32) : zVal L xs 27 12 (.inl (i_i2l 13)) := zS_i2l d27_12
theorem v27_13 (L : Nat) (xs : Nat → Int32) : zVal L xs 27 13 (.inl (i_il 4 15)) := zS_iload d27_13
theorem v27_15 (L : Nat) (xs : Nat → Int32) : zVal L xs 27 15 (.inl (i_il 1 16)) := zS_iload_n d27_15 rfl
theorem v27_16 (L : Nat) (xs : Nat → Int32) : zVal L xs 27 16 (.inl (i_bi (fun x y => x - y) 17)) := zS_isub d27_16
theorem v27_17 (L : Nat) (xs : Nat → Int32) : zVal L xs 27 17 (.inr (.inl (22, 2, 0))) := ⟨by decide +kernel, by decide +kernel, zc_staticN (host := "EditionGrid") d27_17 w578 (by decide +kernel) w577 w73 ⟨by decide +kernel, by decide +kernel, by decide +kernel⟩ (by decide) (by decide)⟩
theorem v27_20 (L : Nat) (xs : Nat → Int32) : zVal L xs 27 20 (.inl (i_f1 (fun x => decide (x = 0)) 31 23)) := zS_if_eq d27_20 (by decide)
theorem v27_23 (L : Nat) (xs : Nat → Int32) : zVal L xs 27 23 (.inl (i_al 0 24)) := zS_aload_n d27_23 rfl
theorem v27_24 (L : Nat) (xs : Nat → Int32) : zVal L xs 27 24 (.inl (i_gf 1 3 27)) := zS_getf d27_24 (zcl1) (by decide) zi1 w305
theorem v27_27 (L : Nat) (xs : Nat → Int32) : zVal L xs 27 27 (.inl (i_il 4 29)) := zS_iload d27_27
theorem v27_29 (L : Nat) (xs : Nat → Int32) : zVal L xs 27 29 (.inl (i_c (.int 2) 30)) := zS_iconst d27_29 (by decide)
theorem v27_30 (L : Nat) (xs : Nat → Int32) : zVal L xs 27 30 (.inl (i_pa 0 (fun x => x) 31)) := zS_iast d27_30
theorem v27_31 (L : Nat) (xs : Nat → Int32) : zVal L xs 27 31 (.inl (i_k [false, false, false, false, false] (i_in 4 1 34))) := zS_k (zS_iinc d27_31 (by decide))
theorem v27_34 (L : Nat) (xs : Nat → Int32) : zVal L xs 27 34 (.inl (i_go 5)) := zS_goto d27_34 (by decide)
theorem v27_37 (L : Nat) (xs : Nat → Int32) : zVal L xs 27 37 (.inl (i_al 0 38)) := zS_aload_n d27_37 rfl
theorem v27_38 (L : Nat) (xs : Nat → Int32) : zVal L xs 27 38 (.inl (i_gf 1 3 41)) := zS_getf d27_38 (zcl1) (by decide) zi1 w305
theorem v27_41 (L : Nat) (xs : Nat → Int32) : zVal L xs 27 41 (.inl (i_il 2 42)) := zS_iload_n d27_41 rfl
theorem v27_42 (L : Nat) (xs : Nat → Int32) : zVal L xs 27 42 (.inl (i_c (.int 1) 43)) := zS_iconst d27_42 (by decide)
theorem v27_43 (L : Nat) (xs : Nat → Int32) : zVal L xs 27 43 (.inl (i_pa 0 (fun x => x) 44)) := zS_iast d27_43
theorem v27_44 (L : Nat) (xs : Nat → Int32) : zVal L xs 27 44 (.inr (.inr 0)) := zr_0 d27_44 rfl
theorem vt27 (L : Nat) (xs : Nat → Int32) : zAll (fun x => zVal L xs 27 x.1 x.2) (tb27) := ⟨v27_0 L xs, v27_1 L xs, v27_2 L xs, v27_3 L xs, v27_5 L xs, v27_7 L xs, v27_8 L xs, v27_11 L xs, v27_12 L xs, v27_13 L xs, v27_15 L xs, v27_16 L xs, v27_17 L xs, v27_20 L xs, v27_23 L xs, v27_24 L xs, v27_27 L xs, v27_29 L xs, v27_30 L xs, v27_31 L xs, v27_34 L xs, v27_37 L xs, v27_38 L xs, v27_41 L xs, v27_42 L xs, v27_43 L xs, v27_44 L xs, trivial⟩
theorem d28_0 : decode (mB 28) 0 = .ok (.aload_n 0, 1) := by decide +kernel
theorem d28_1 : decode (mB 28) 1 = .ok (.getfield 55, 3) := by decide +kernel
theorem d28_4 : decode (mB 28) 4 = .ok (.iconst 1, 1) := by decide +kernel
theorem d28_5 : decode (mB 28) 5 = .ok (.isub, 1) := by decide +kernel
theorem d28_6 : decode (mB 28) 6 = .ok (.istore_n 1, 1) := by decide +kernel
theorem d28_7 : decode (mB 28) 7 = .ok (.iload_n 1, 1) := by decide +kernel
theorem d28_8 : decode (mB 28) 8 = .ok (.ifCond .lt 50, 3) := by decide +kernel
theorem d28_11 : decode (mB 28) 11 = .ok (.iload_n 1, 1) := by decide +kernel
theorem d28_12 : decode (mB 28) 12 = .ok (.ifCond .eq 25, 3) := by decide +kernel
theorem d28_15 : decode (mB 28) 15 = .ok (.aload_n 0, 1) := by decide +kernel
theorem d28_16 : decode (mB 28) 16 = .ok (.getfield 22, 3) := by decide +kernel
theorem d28_19 : decode (mB 28) 19 = .ok (.iload_n 1, 1) := by decide +kernel
theorem d28_20 : decode (mB 28) 20 = .ok (.iaload, 1) := by decide +kernel
theorem d28_21 : decode (mB 28) 21 = .ok (.iconst 2, 1) := by decide +kernel
theorem d28_22 : decode (mB 28) 22 = .ok (.if_icmp .eq 15, 3) := by decide +kernel
theorem d28_25 : decode (mB 28) 25 = .ok (.aload_n 0, 1) := by decide +kernel
theorem d28_26 : decode (mB 28) 26 = .ok (.getfield 22, 3) := by decide +kernel
theorem d28_29 : decode (mB 28) 29 = .ok (.iload_n 1, 1) := by decide +kernel
theorem d28_30 : decode (mB 28) 30 = .ok (.iconst 1, 1) := by decide +kernel
theorem d28_31 : decode (mB 28) 31 = .ok (.isub, 1) := by decide +kernel
theorem d28_32 : decode (mB 28) 32 = .ok (.iaload, 1) := by decide +kernel
theorem d28_33 : decode (mB 28) 33 = .ok (.iconst 1, 1) := by decide +kernel
theorem d28_34 : decode (mB 28) 34 = .ok (.if_icmp .ne 7, 3) := by decide +kernel
theorem d28_37 : decode (mB 28) 37 = .ok (.iconst 1, 1) := by decide +kernel
theorem d28_38 : decode (mB 28) 38 = .ok (.goto 4, 3) := by decide +kernel
theorem d28_41 : decode (mB 28) 41 = .ok (.iconst 0, 1) := by decide +kernel
theorem d28_42 : decode (mB 28) 42 = .ok (.istore_n 2, 1) := by decide +kernel
theorem d28_43 : decode (mB 28) 43 = .ok (.iload_n 2, 1) := by decide +kernel
theorem d28_44 : decode (mB 28) 44 = .ok (.ifCond .eq 8, 3) := by decide +kernel
theorem d28_47 : decode (mB 28) 47 = .ok (.aload_n 0, 1) := by decide +kernel
theorem d28_48 : decode (mB 28) 48 = .ok (.iload_n 1, 1) := by decide +kernel
theorem d28_49 : decode (mB 28) 49 = .ok (.invokevirtual 96, 3) := by decide +kernel
theorem d28_52 : decode (mB 28) 52 = .ok (.iinc 1 (-1), 3) := by decide +kernel
theorem d28_55 : decode (mB 28) 55 = .ok (.goto (-48), 3) := by decide +kernel
theorem d28_58 : decode (mB 28) 58 = .ok (.aload_n 0, 1) := by decide +kernel
theorem d28_59 : decode (mB 28) 59 = .ok (.getfield 25, 3) := by decide +kernel
theorem d28_62 : decode (mB 28) 62 = .ok (.iconst 0, 1) := by decide +kernel
theorem d28_63 : decode (mB 28) 63 = .ok (.iaload, 1) := by decide +kernel
theorem d28_64 : decode (mB 28) 64 = .ok (.ireturn, 1) := by decide +kernel
theorem v28_0 (L : Nat) (xs : Nat → Int32) : zVal L xs 28 0 (.inl (i_al 0 1)) := zS_aload_n d28_0 rfl
theorem v28_1 (L : Nat) (xs : Nat → Int32) : zVal L xs 28 1 (.inl (i_gf 1 6 4)) := zS_getf d28_1 (zcl1) (by decide) zi1 w308
theorem v28_4 (L : Nat) (xs : Nat → Int32) : zVal L xs 28 4 (.inl (i_c (.int 1) 5)) := zS_iconst d28_4 (by decide)
theorem v28_5 (L : Nat) (xs : Nat → Int32) : zVal L xs 28 5 (.inl (i_bi (fun x y => x - y) 6)) := zS_isub d28_5
theorem v28_6 (L : Nat) (xs : Nat → Int32) : zVal L xs 28 6 (.inl (i_is 1 7)) := zS_istore_n d28_6 rfl
theorem v28_7 (L : Nat) (xs : Nat → Int32) : zVal L xs 28 7 (.inl (i_k [false, false, true] (i_il 1 8))) := zS_k (zS_iload_n d28_7 rfl)
theorem v28_8 (L : Nat) (xs : Nat → Int32) : zVal L xs 28 8 (.inl (i_f1 (fun x => decide (x < 0)) 58 11)) := zS_if_lt d28_8 (by decide)
theorem v28_11 (L : Nat) (xs : Nat → Int32) : zVal L xs 28 11 (.inl (i_il 1 12)) := zS_iload_n d28_11 rfl
theorem v28_12 (L : Nat) (xs : Nat → Int32) : zVal L xs 28 12 (.inl (i_f1 (fun x => decide (x = 0)) 37 15)) := zS_if_eq d28_12 (by decide)
theorem v28_15 (L : Nat) (xs : Nat → Int32) : zVal L xs 28 15 (.inl (i_al 0 16)) := zS_aload_n d28_15 rfl
theorem v28_16 (L : Nat) (xs : Nat → Int32) : zVal L xs 28 16 (.inl (i_gf 1 3 19)) := zS_getf d28_16 (zcl1) (by decide) zi1 w305
theorem v28_19 (L : Nat) (xs : Nat → Int32) : zVal L xs 28 19 (.inl (i_il 1 20)) := zS_iload_n d28_19 rfl
theorem v28_20 (L : Nat) (xs : Nat → Int32) : zVal L xs 28 20 (.inl (i_ga 0 21)) := zS_iald d28_20
theorem v28_21 (L : Nat) (xs : Nat → Int32) : zVal L xs 28 21 (.inl (i_c (.int 2) 22)) := zS_iconst d28_21 (by decide)
theorem v28_22 (L : Nat) (xs : Nat → Int32) : zVal L xs 28 22 (.inl (i_f2 (fun x y => decide (x = y)) 37 25)) := zS_icmp_eq d28_22 (by decide)
theorem v28_25 (L : Nat) (xs : Nat → Int32) : zVal L xs 28 25 (.inl (i_al 0 26)) := zS_aload_n d28_25 rfl
theorem v28_26 (L : Nat) (xs : Nat → Int32) : zVal L xs 28 26 (.inl (i_gf 1 3 29)) := zS_getf d28_26 (zcl1) (by decide) zi1 w305
theorem v28_29 (L : Nat) (xs : Nat → Int32) : zVal L xs 28 29 (.inl (i_il 1 30)) := zS_iload_n d28_29 rfl
theorem v28_30 (L : Nat) (xs : Nat → Int32) : zVal L xs 28 30 (.inl (i_c (.int 1) 31)) := zS_iconst d28_30 (by decide)
theorem v28_31 (L : Nat) (xs : Nat → Int32) : zVal L xs 28 31 (.inl (i_bi (fun x y => x - y) 32)) := zS_isub d28_31
theorem v28_32 (L : Nat) (xs : Nat → Int32) : zVal L xs 28 32 (.inl (i_ga 0 33)) := zS_iald d28_32
theorem v28_33 (L : Nat) (xs : Nat → Int32) : zVal L xs 28 33 (.inl (i_c (.int 1) 34)) := zS_iconst d28_33 (by decide)
theorem v28_34 (L : Nat) (xs : Nat → Int32) : zVal L xs 28 34 (.inl (i_f2 (fun x y => decide (¬ x = y)) 41 37)) := zS_icmp_ne d28_34 (by decide)
theorem v28_37 (L : Nat) (xs : Nat → Int32) : zVal L xs 28 37 (.inl (i_k [false, false, true] (i_c (.int 1) 38))) := zS_k (zS_iconst d28_37 (by decide))
theorem v28_38 (L : Nat) (xs : Nat → Int32) : zVal L xs 28 38 (.inl (i_go 42)) := zS_goto d28_38 (by decide)
theorem v28_41 (L : Nat) (xs : Nat → Int32) : zVal L xs 28 41 (.inl (i_c (.int 0) 42)) := zS_iconst d28_41 (by decide)
theorem v28_42 (L : Nat) (xs : Nat → Int32) : zVal L xs 28 42 (.inl (i_k [false, false, true] (i_is 2 43))) := zS_k (zS_istore_n d28_42 rfl)
theorem v28_43 (L : Nat) (xs : Nat → Int32) : zVal L xs 28 43 (.inl (i_il 2 44)) := zS_iload_n d28_43 rfl
theorem v28_44 (L : Nat) (xs : Nat → Int32) : zVal L xs 28 44 (.inl (i_f1 (fun x => decide (x = 0)) 52 47)) := zS_if_eq d28_44 (by decide)
theorem v28_47 (L : Nat) (xs : Nat → Int32) : zVal L xs 28 47 (.inl (i_al 0 48)) := zS_aload_n d28_47 rfl
theorem v28_48 (L : Nat) (xs : Nat → Int32) : zVal L xs 28 48 (.inl (i_il 1 49)) := zS_iload_n d28_48 rfl
theorem v28_49 (L : Nat) (xs : Nat → Int32) : zVal L xs 28 49 (.inr (.inl (29, 2, 2))) := ⟨by decide +kernel, by decide +kernel, zc_virt d28_49 zcl1 w586 w583 w585 w13 w78 ⟨by decide +kernel, by decide +kernel, by decide +kernel⟩ (by decide) (by decide)⟩
theorem v28_52 (L : Nat) (xs : Nat → Int32) : zVal L xs 28 52 (.inl (i_k [false, false, true] (i_in 1 (-1) 55))) := zS_k (zS_iinc d28_52 (by decide))
theorem v28_55 (L : Nat) (xs : Nat → Int32) : zVal L xs 28 55 (.inl (i_go 7)) := zS_goto d28_55 (by decide)
theorem v28_58 (L : Nat) (xs : Nat → Int32) : zVal L xs 28 58 (.inl (i_al 0 59)) := zS_aload_n d28_58 rfl
theorem v28_59 (L : Nat) (xs : Nat → Int32) : zVal L xs 28 59 (.inl (i_gf 1 4 62)) := zS_getf d28_59 (zcl1) (by decide) zi1 w306
theorem v28_62 (L : Nat) (xs : Nat → Int32) : zVal L xs 28 62 (.inl (i_c (.int 0) 63)) := zS_iconst d28_62 (by decide)
theorem v28_63 (L : Nat) (xs : Nat → Int32) : zVal L xs 28 63 (.inl (i_ga 0 64)) := zS_iald d28_63
theorem v28_64 (L : Nat) (xs : Nat → Int32) : zVal L xs 28 64 (.inr (.inr 1)) := zr_1 d28_64 rfl
theorem vt28 (L : Nat) (xs : Nat → Int32) : zAll (fun x => zVal L xs 28 x.1 x.2) (tb28) := ⟨v28_0 L xs, v28_1 L xs, v28_4 L xs, v28_5 L xs, v28_6 L xs, v28_7 L xs, v28_8 L xs, v28_11 L xs, v28_12 L xs, v28_15 L xs, v28_16 L xs, v28_19 L xs, v28_20 L xs, v28_21 L xs, v28_22 L xs, v28_25 L xs, v28_26 L xs, v28_29 L xs, v28_30 L xs, v28_31 L xs, v28_32 L xs, v28_33 L xs, v28_34 L xs, v28_37 L xs, v28_38 L xs, v28_41 L xs, v28_42 L xs, v28_43 L xs, v28_44 L xs, v28_47 L xs, v28_48 L xs, v28_49 L xs, v28_52 L xs, v28_55 L xs, v28_58 L xs, v28_59 L xs, v28_62 L xs, v28_63 L xs, v28_64 L xs, trivial⟩
theorem d29_0 : decode (mB 29) 0 = .ok (.aload_n 0, 1) := by decide +kernel
theorem d29_1 : decode (mB 29) 1 = .ok (.getfield 25, 3) := by decide +kernel
theorem d29_4 : decode (mB 29) 4 = .ok (.iload_n 1, 1) := by decide +kernel
theorem d29_5 : decode (mB 29) 5 = .ok (.iconst (-1), 1) := by decide +kernel
theorem d29_6 : decode (mB 29) 6 = .ok (.iastore, 1) := by decide +kernel
theorem d29_7 : decode (mB 29) 7 = .ok (.iload_n 1, 1) := by decide +kernel
theorem d29_8 : decode (mB 29) 8 = .ok (.iconst 1, 1) := by decide +kernel
theorem d29_9 : decode (mB 29) 9 = .ok (.iadd, 1) := by decide +kernel
theorem d29_10 : decode (mB 29) 10 = .ok (.istore_n 2, 1) := by decide +kernel
theorem d29_11 : decode (mB 29) 11 = .ok (.iload_n 2, 1) := by decide +kernel
theorem d29_12 : decode (mB 29) 12 = .ok (.aload_n 0, 1) := by decide +kernel
theorem d29_13 : decode (mB 29) 13 = .ok (.getfield 55, 3) := by decide +kernel
theorem d29_16 : decode (mB 29) 16 = .ok (.if_icmp .gt 78, 3) := by decide +kernel
theorem d29_19 : decode (mB 29) 19 = .ok (.aload_n 0, 1) := by decide +kernel
theorem d29_20 : decode (mB 29) 20 = .ok (.getfield 18, 3) := by decide +kernel
theorem d29_23 : decode (mB 29) 23 = .ok (.iload_n 2, 1) := by decide +kernel
theorem d29_24 : decode (mB 29) 24 = .ok (.iaload, 1) := by decide +kernel
theorem d29_25 : decode (mB 29) 25 = .ok (.aload_n 0, 1) := by decide +kernel
theorem d29_26 : decode (mB 29) 26 = .ok (.getfield 18, 3) := by decide +kernel
theorem d29_29 : decode (mB 29) 29 = .ok (.iload_n 1, 1) := by decide +kernel
theorem d29_30 : decode (mB 29) 30 = .ok (.iaload, 1) := by decide +kernel
theorem d29_31 : decode (mB 29) 31 = .ok (.isub, 1) := by decide +kernel
theorem d29_32 : decode (mB 29) 32 = .ok (.aload_n 0, 1) := by decide +kernel
theorem d29_33 : decode (mB 29) 33 = .ok (.getfield 31, 3) := by decide +kernel
theorem d29_36 : decode (mB 29) 36 = .ok (.if_icmp .le 6, 3) := by decide +kernel
theorem d29_39 : decode (mB 29) 39 = .ok (.goto 55, 3) := by decide +kernel
theorem d29_42 : decode (mB 29) 42 = .ok (.aload_n 0, 1) := by decide +kernel
theorem d29_43 : decode (mB 29) 43 = .ok (.iload_n 1, 1) := by decide +kernel
theorem d29_44 : decode (mB 29) 44 = .ok (.iload_n 2, 1) := by decide +kernel
theorem d29_45 : decode (mB 29) 45 = .ok (.invokevirtual 100, 3) := by decide +kernel
theorem d29_48 : decode (mB 29) 48 = .ok (.istore_n 3, 1) := by decide +kernel
theorem d29_49 : decode (mB 29) 49 = .ok (.iload_n 3, 1) := by decide +kernel
theorem d29_50 : decode (mB 29) 50 = .ok (.iconst (-1), 1) := by decide +kernel
theorem d29_51 : decode (mB 29) 51 = .ok (.if_icmp .eq 37, 3) := by decide +kernel
theorem d29_54 : decode (mB 29) 54 = .ok (.aload_n 0, 1) := by decide +kernel
theorem d29_55 : decode (mB 29) 55 = .ok (.getfield 25, 3) := by decide +kernel
theorem d29_58 : decode (mB 29) 58 = .ok (.iload_n 1, 1) := by decide +kernel
theorem d29_59 : decode (mB 29) 59 = .ok (.iaload, 1) := by decide +kernel
theorem d29_60 : decode (mB 29) 60 = .ok (.iconst (-1), 1) := by decide +kernel
theorem d29_61 : decode (mB 29) 61 = .ok (.if_icmp .eq 13, 3) := by decide +kernel
theorem d29_64 : decode (mB 29) 64 = .ok (.iload_n 3, 1) := by decide +kernel
theorem d29_65 : decode (mB 29) 65 = .ok (.aload_n 0, 1) := by decide +kernel
theorem d29_66 : decode (mB 29) 66 = .ok (.getfield 25, 3) := by decide +kernel
theorem d29_69 : decode (mB 29) 69 = .ok (.iload_n 1, 1) := by decide +kernel
theorem d29_70 : decode (mB 29) 70 = .ok (.iaload, 1) := by decide +kernel
theorem d29_71 : decode (mB 29) 71 = .ok (.if_icmp .gt 17, 3) := by decide +kernel
theorem d29_74 : decode (mB 29) 74 = .ok (.aload_n 0, 1) := by decide +kernel
theorem d29_75 : decode (mB 29) 75 = .ok (.getfield 25, 3) := by decide +kernel
theorem d29_78 : decode (mB 29) 78 = .ok (.iload_n 1, 1) := by decide +kernel
theorem d29_79 : decode (mB 29) 79 = .ok (.iload_n 3, 1) := by decide +kernel
theorem d29_80 : decode (mB 29) 80 = .ok (.iastore, 1) := by decide +kernel
theorem d29_81 : decode (mB 29) 81 = .ok (.aload_n 0, 1) := by decide +kernel
theorem d29_82 : decode (mB 29) 82 = .ok (.getfield 28, 3) := by decide +kernel
theorem d29_85 : decode (mB 29) 85 = .ok (.iload_n 1, 1) := by decide +kernel
theorem d29_86 : decode (mB 29) 86 = .ok (.iload_n 2, 1) := by decide +kernel
theorem d29_87 : decode (mB 29) 87 = .ok (.iastore, 1) := by decide +kernel
theorem d29_88 : decode (mB 29) 88 = .ok (.iinc 2 1, 3) := by decide +kernel
theorem d29_91 : decode (mB 29) 91 = .ok (.goto (-80), 3) := by decide +kernel
theorem d29_94 : decode (mB 29) 94 = .ok (.return_, 1) := by decide +kernel
theorem v29_0 (L : Nat) (xs : Nat → Int32) : zVal L xs 29 0 (.inl (i_al 0 1)) := zS_aload_n d29_0 rfl
theorem v29_1 (L : Nat) (xs : Nat → Int32) : zVal L xs 29 1 (.inl (i_gf 1 4 4)) := zS_getf d29_1 (zcl1) (by decide) zi1 w306
theorem v29_4 (L : Nat) (xs : Nat → Int32) : zVal L xs 29 4 (.inl (i_il 1 5)) := zS_iload_n d29_4 rfl
theorem v29_5 (L : Nat) (xs : Nat → Int32) : zVal L xs 29 5 (.inl (i_c (.int (-1)) 6)) := zS_iconst d29_5 (by decide)
theorem v29_6 (L : Nat) (xs : Nat → Int32) : zVal L xs 29 6 (.inl (i_pa 0 (fun x => x) 7)) := zS_iast d29_6
theorem v29_7 (L : Nat) (xs : Nat → Int32) : zVal L xs 29 7 (.inl (i_il 1 8)) := zS_iload_n d29_7 rfl
theorem v29_8 (L : Nat) (xs : Nat → Int32) : zVal L xs 29 8 (.inl (i_c (.int 1) 9)) := zS_iconst d29_8 (by decide)
theorem v29_9 (L : Nat) (xs : Nat → Int32) : zVal L xs 29 9 (.inl (i_bi (fun x y => x + y) 10)) := zS_iadd d29_9
theorem v29_10 (L : Nat) (xs : Nat → Int32) : zVal L xs 29 10 (.inl (i_is 2 11)) := zS_istore_n d29_10 rfl
theorem v29_11 (L : Nat) (xs : Nat → Int32) : zVal L xs 29 11 (.inl (i_k [false, false, false, true] (i_il 2 12))) := zS_k (zS_iload_n d29_11 rfl)
theorem v29_12 (L : Nat) (xs : Nat → Int32) : zVal L xs 29 12 (.inl (i_al 0 13)) := zS_aload_n d29_12 rfl
theorem v29_13 (L : Nat) (xs : Nat → Int32) : zVal L xs 29 13 (.inl (i_gf 1 6 16)) := zS_getf d29_13 (zcl1) (by decide) zi1 w308
theorem v29_16 (L : Nat) (xs : Nat → Int32) : zVal L xs 29 16 (.inl (i_f2 (fun x y => decide (y < x)) 94 19)) := zS_icmp_gt d29_16 (by decide)
theorem v29_19 (L : Nat) (xs : Nat → Int32) : zVal L xs 29 19 (.inl (i_al 0 20)) := zS_aload_n d29_19 rfl
theorem v29_20 (L : Nat) (xs : Nat → Int32) : zVal L xs 29 20 (.inl (i_gf 1 2 23)) := zS_getf d29_20 (zcl1) (by decide) zi1 w304
theorem v29_23 (L : Nat) (xs : Nat → Int32) : zVal L xs 29 23 (.inl (i_il 2 24)) := zS_iload_n d29_23 rfl
theorem v29_24 (L : Nat) (xs : Nat → Int32) : zVal L xs 29 24 (.inl (i_ga 0 25)) := zS_iald d29_24
theorem v29_25 (L : Nat) (xs : Nat → Int32) : zVal L xs 29 25 (.inl (i_al 0 26)) := zS_aload_n d29_25 rfl
theorem v29_26 (L : Nat) (xs : Nat → Int32) : zVal L xs 29 26 (.inl (i_gf 1 2 29)) := zS_getf d29_26 (zcl1) (by decide) zi1 w304
theorem v29_29 (L : Nat) (xs : Nat → Int32) : zVal L xs 29 29 (.inl (i_il 1 30)) := zS_iload_n d29_29 rfl
theorem v29_30 (L : Nat) (xs : Nat → Int32) : zVal L xs 29 30 (.inl (i_ga 0 31)) := zS_iald d29_30
theorem v29_31 (L : Nat) (xs : Nat → Int32) : zVal L xs 29 31 (.inl (i_bi (fun x y => x - y) 32)) := zS_isub d29_31
theorem v29_32 (L : Nat) (xs : Nat → Int32) : zVal L xs 29 32 (.inl (i_al 0 33)) := zS_aload_n d29_32 rfl
theorem v29_33 (L : Nat) (xs : Nat → Int32) : zVal L xs 29 33 (.inl (i_gf 1 1 36)) := zS_getf d29_33 (zcl1) (by decide) zi1 w303
theorem v29_36 (L : Nat) (xs : Nat → Int32) : zVal L xs 29 36 (.inl (i_f2 (fun x y => decide (x ≤ y)) 42 39)) := zS_icmp_le d29_36 (by decide)
theorem v29_39 (L : Nat) (xs : Nat → Int32) : zVal L xs 29 39 (.inl (i_go 94)) := zS_goto d29_39 (by decide)
theorem v29_42 (L : Nat) (xs : Nat → Int32) : zVal L xs 29 42 (.inl (i_al 0 43)) := zS_aload_n d29_42 rfl
theorem v29_43 (L : Nat) (xs : Nat → Int32) : zVal L xs 29 43 (.inl (i_il 1 44)) := zS_iload_n d29_43 rfl
theorem v29_44 (L : Nat) (xs : Nat → Int32) : zVal L xs 29 44 (.inl (i_il 2 45)) := zS_iload_n d29_44 rfl
theorem v29_45 (L : Nat) (xs : Nat → Int32) : zVal L xs 29 45 (.inr (.inl (30, 3, 2))) := ⟨by decide +kernel, by decide +kernel, zc_virt d29_45 zcl1 w590 w587 w589 w14 w78 ⟨by decide +kernel, by decide +kernel, by decide +kernel⟩ (by decide) (by decide)⟩
theorem v29_48 (L : Nat) (xs : Nat → Int32) : zVal L xs 29 48 (.inl (i_is 3 49)) := zS_istore_n d29_48 rfl
theorem v29_49 (L : Nat) (xs : Nat → Int32) : zVal L xs 29 49 (.inl (i_il 3 50)) := zS_iload_n d29_49 rfl
theorem v29_50 (L : Nat) (xs : Nat → Int32) : zVal L xs 29 50 (.inl (i_c (.int (-1)) 51)) := zS_iconst d29_50 (by decide)
theorem v29_51 (L : Nat) (xs : Nat → Int32) : zVal L xs 29 51 (.inl (i_f2 (fun x y => decide (x = y)) 88 54)) := zS_icmp_eq d29_51 (by decide)
theorem v29_54 (L : Nat) (xs : Nat → Int32) : zVal L xs 29 54 (.inl (i_al 0 55)) := zS_aload_n d29_54 rfl
theorem v29_55 (L : Nat) (xs : Nat → Int32) : zVal L xs 29 55 (.inl (i_gf 1 4 58)) := zS_getf d29_55 (zcl1) (by decide) zi1 w306
theorem v29_58 (L : Nat) (xs : Nat → Int32) : zVal L xs 29 58 (.inl (i_il 1 59)) := zS_iload_n d29_58 rfl
theorem v29_59 (L : Nat) (xs : Nat → Int32) : zVal L xs 29 59 (.inl (i_ga 0 60)) := zS_iald d29_59
theorem v29_60 (L : Nat) (xs : Nat → Int32) : zVal L xs 29 60 (.inl (i_c (.int (-1)) 61)) := zS_iconst d29_60 (by decide)
theorem v29_61 (L : Nat) (xs : Nat → Int32) : zVal L xs 29 61 (.inl (i_f2 (fun x y => decide (x = y)) 74 64)) := zS_icmp_eq d29_61 (by decide)
theorem v29_64 (L : Nat) (xs : Nat → Int32) : zVal L xs 29 64 (.inl (i_il 3 65)) := zS_iload_n d29_64 rfl
theorem v29_65 (L : Nat) (xs : Nat → Int32) : zVal L xs 29 65 (.inl (i_al 0 66)) := zS_aload_n d29_65 rfl
theorem v29_66 (L : Nat) (xs : Nat → Int32) : zVal L xs 29 66 (.inl (i_gf 1 4 69)) := zS_getf d29_66 (zcl1) (by decide) zi1 w306
theorem v29_69 (L : Nat) (xs : Nat → Int32) : zVal L xs 29 69 (.inl (i_il 1 70)) := zS_iload_n d29_69 rfl
theorem v29_70 (L : Nat) (xs : Nat → Int32) : zVal L xs 29 70 (.inl (i_ga 0 71)) := zS_iald d29_70
theorem v29_71 (L : Nat) (xs : Nat → Int32) : zVal L xs 29 71 (.inl (i_f2 (fun x y => decide (y < x)) 88 74)) := zS_icmp_gt d29_71 (by decide)
theorem v29_74 (L : Nat) (xs : Nat → Int32) : zVal L xs 29 74 (.inl (i_k [false, false, false, false] (i_al 0 75))) := zS_k (zS_aload_n d29_74 rfl)
theorem v29_75 (L : Nat) (xs : Nat → Int32) : zVal L xs 29 75 (.inl (i_gf 1 4 78)) := zS_getf d29_75 (zcl1) (by decide) zi1 w306
theorem v29_78 (L : Nat) (xs : Nat → Int32) : zVal L xs 29 78 (.inl (i_il 1 79)) := zS_iload_n d29_78 rfl
theorem v29_79 (L : Nat) (xs : Nat → Int32) : zVal L xs 29 79 (.inl (i_il 3 80)) := zS_iload_n d29_79 rfl
theorem v29_80 (L : Nat) (xs : Nat → Int32) : zVal L xs 29 80 (.inl (i_pa 0 (fun x => x) 81)) := zS_iast d29_80
theorem v29_81 (L : Nat) (xs : Nat → Int32) : zVal L xs 29 81 (.inl (i_al 0 82)) := zS_aload_n d29_81 rfl
theorem v29_82 (L : Nat) (xs : Nat → Int32) : zVal L xs 29 82 (.inl (i_gf 1 5 85)) := zS_getf d29_82 (zcl1) (by decide) zi1 w307
theorem v29_85 (L : Nat) (xs : Nat → Int32) : zVal L xs 29 85 (.inl (i_il 1 86)) := zS_iload_n d29_85 rfl
theorem v29_86 (L : Nat) (xs : Nat → Int32) : zVal L xs 29 86 (.inl (i_il 2 87)) := zS_iload_n d29_86 rfl
theorem v29_87 (L : Nat) (xs : Nat → Int32) : zVal L xs 29 87 (.inl (i_pa 0 (fun x => x) 88)) := zS_iast d29_87
theorem v29_88 (L : Nat) (xs : Nat → Int32) : zVal L xs 29 88 (.inl (i_k [false, false, false, true] (i_in 2 1 91))) := zS_k (zS_iinc d29_88 (by decide))
theorem v29_91 (L : Nat) (xs : Nat → Int32) : zVal L xs 29 91 (.inl (i_go 11)) := zS_goto d29_91 (by decide)
theorem v29_94 (L : Nat) (xs : Nat → Int32) : zVal L xs 29 94 (.inr (.inr 0)) := zr_0 d29_94 rfl
theorem vt29 (L : Nat) (xs : Nat → Int32) : zAll (fun x => zVal L xs 29 x.1 x.2) (tb29) := ⟨v29_0 L xs, v29_1 L xs, v29_4 L xs, v29_5 L xs, v29_6 L xs, v29_7 L xs, v29_8 L xs, v29_9 L xs, v29_10 L xs, v29_11 L xs, v29_12 L xs, v29_13 L xs, v29_16 L xs, v29_19 L xs, v29_20 L xs, v29_23 L xs, v29_24 L xs, v29_25 L xs, v29_26 L xs, v29_29 L xs, v29_30 L xs, v29_31 L xs, v29_32 L xs, v29_33 L xs, v29_36 L xs, v29_39 L xs, v29_42 L xs, v29_43 L xs, v29_44 L xs, v29_45 L xs, v29_48 L xs, v29_49 L xs, v29_50 L xs, v29_51 L xs, v29_54 L xs, v29_55 L xs, v29_58 L xs, v29_59 L xs, v29_60 L xs, v29_61 L xs, v29_64 L xs, v29_65 L xs, v29_66 L xs, v29_69 L xs, v29_70 L xs, v29_71 L xs, v29_74 L xs, v29_75 L xs, v29_78 L xs, v29_79 L xs, v29_80 L xs, v29_81 L xs, v29_82 L xs, v29_85 L xs, v29_86 L xs, v29_87 L xs, v29_88 L xs, v29_91 L xs, v29_94 L xs, trivial⟩
theorem d30_0 : decode (mB 30) 0 = .ok (.aload_n 0, 1) := by decide +kernel
theorem d30_1 : decode (mB 30) 1 = .ok (.getfield 22, 3) := by decide +kernel
theorem d30_4 : decode (mB 30) 4 = .ok (.iload_n 2, 1) := by decide +kernel
theorem d30_5 : decode (mB 30) 5 = .ok (.iaload, 1) := by decide +kernel
theorem d30_6 : decode (mB 30) 6 = .ok (.istore_n 3, 1) := by decide +kernel
theorem d30_7 : decode (mB 30) 7 = .ok (.aload_n 0, 1) := by decide +kernel
theorem d30_8 : decode (mB 30) 8 = .ok (.getfield 31, 3) := by decide +kernel
theorem d30_11 : decode (mB 30) 11 = .ok (.aload_n 0, 1) := by decide +kernel
theorem d30_12 : decode (mB 30) 12 = .ok (.getfield 18, 3) := by decide +kernel
theorem d30_15 : decode (mB 30) 15 = .ok (.iload_n 2, 1) := by decide +kernel
theorem d30_16 : decode (mB 30) 16 = .ok (.iaload, 1) := by decide +kernel
theorem d30_17 : decode (mB 30) 17 = .ok (.aload_n 0, 1) := by decide +kernel
theorem d30_18 : decode (mB 30) 18 = .ok (.getfield 18, 3) := by decide +kernel
theorem d30_21 : decode (mB 30) 21 = .ok (.iload_n 1, 1) := by decide +kernel
theorem d30_22 : decode (mB 30) 22 = .ok (.iaload, 1) := by decide +kernel
theorem d30_23 : decode (mB 30) 23 = .ok (.isub, 1) := by decide +kernel
theorem d30_24 : decode (mB 30) 24 = .ok (.isub, 1) := by decide +kernel
theorem d30_25 : decode (mB 30) 25 = .ok (.iload_n 3, 1) := by decide +kernel
theorem d30_26 : decode (mB 30) 26 = .ok (.iconst 2, 1) := by decide +kernel
theorem d30_27 : decode (mB 30) 27 = .ok (.if_icmp .ne 7, 3) := by decide +kernel
theorem d30_30 : decode (mB 30) 30 = .ok (.iconst 2, 1) := by decide +kernel
theorem d30_31 : decode (mB 30) 31 = .ok (.goto 4, 3) := by decide +kernel
theorem d30_34 : decode (mB 30) 34 = .ok (.iconst 0, 1) := by decide +kernel
theorem d30_35 : decode (mB 30) 35 = .ok (.isub, 1) := by decide +kernel
theorem d30_36 : decode (mB 30) 36 = .ok (.istore 4, 2) := by decide +kernel
theorem d30_38 : decode (mB 30) 38 = .ok (.iload_n 3, 1) := by decide +kernel
theorem d30_39 : decode (mB 30) 39 = .ok (.ifCond .eq 8, 3) := by decide +kernel
theorem d30_42 : decode (mB 30) 42 = .ok (.iload 4, 2) := by decide +kernel
theorem d30_44 : decode (mB 30) 44 = .ok (.ifCond .ge 5, 3) := by decide +kernel
theorem d30_47 : decode (mB 30) 47 = .ok (.iconst (-1), 1) := by decide +kernel
theorem d30_48 : decode (mB 30) 48 = .ok (.ireturn, 1) := by decide +kernel
theorem d30_49 : decode (mB 30) 49 = .ok (.iload_n 3, 1) := by decide +kernel
theorem d30_50 : decode (mB 30) 50 = .ok (.iconst 3, 1) := by decide +kernel
theorem d30_51 : decode (mB 30) 51 = .ok (.if_icmp .ne 5, 3) := by decide +kernel
theorem d30_54 : decode (mB 30) 54 = .ok (.iconst 0, 1) := by decide +kernel
theorem d30_55 : decode (mB 30) 55 = .ok (.ireturn, 1) := by decide +kernel
theorem d30_56 : decode (mB 30) 56 = .ok (.aload_n 0, 1) := by decide +kernel
theorem d30_57 : decode (mB 30) 57 = .ok (.getfield 25, 3) := by decide +kernel
theorem d30_60 : decode (mB 30) 60 = .ok (.aload_n 0, 1) := by decide +kernel
theorem d30_61 : decode (mB 30) 61 = .ok (.iload_n 2, 1) := by decide +kernel
theorem d30_62 : decode (mB 30) 62 = .ok (.invokevirtual 103, 3) := by decide +kernel
theorem d30_65 : decode (mB 30) 65 = .ok (.iaload, 1) := by decide +kernel
theorem d30_66 : decode (mB 30) 66 = .ok (.istore 5, 2) := by decide +kernel
theorem d30_68 : decode (mB 30) 68 = .ok (.iload 5, 2) := by decide +kernel
theorem d30_70 : decode (mB 30) 70 = .ok (.iconst (-1), 1) := by decide +kernel
theorem d30_71 : decode (mB 30) 71 = .ok (.if_icmp .ne 7, 3) := by decide +kernel
theorem d30_74 : decode (mB 30) 74 = .ok (.iconst (-1), 1) := by decide +kernel
theorem d30_75 : decode (mB 30) 75 = .ok (.goto 23, 3) := by decide +kernel
theorem d30_78 : decode (mB 30) 78 = .ok (.iload 5, 2) := by decide +kernel
theorem d30_80 : decode (mB 30) 80 = .ok (.iload 4, 2) := by decide +kernel
theorem d30_82 : decode (mB 30) 82 = .ok (.iload 4, 2) := by decide +kernel
theorem d30_84 : decode (mB 30) 84 = .ok (.imul, 1) := by decide +kernel
theorem d30_85 : decode (mB 30) 85 = .ok (.iadd, 1) := by decide +kernel
theorem d30_86 : decode (mB 30) 86 = .ok (.iload_n 3, 1) := by decide +kernel
theorem d30_87 : decode (mB 30) 87 = .ok (.iconst 2, 1) := by decide +kernel
theorem d30_88 : decode (mB 30) 88 = .ok (.if_icmp .ne 8, 3) := by decide +kernel
theorem d30_91 : decode (mB 30) 91 = .ok (.bipush 100, 2) := by decide +kernel
theorem d30_93 : decode (mB 30) 93 = .ok (.goto 4, 3) := by decide +kernel
theorem d30_96 : decode (mB 30) 96 = .ok (.iconst 0, 1) := by decide +kernel
theorem d30_97 : decode (mB 30) 97 = .ok (.iadd, 1) := by decide +kernel
theorem d30_98 : decode (mB 30) 98 = .ok (.ireturn, 1) := by decide +kernel
theorem v30_0 (L : Nat) (xs : Nat → Int32) : zVal L xs 30 0 (.inl (i_al 0 1)) := zS_aload_n d30_0 rfl
theorem v30_1 (L : Nat) (xs : Nat → Int32) : zVal L xs 30 1 (.inl (i_gf 1 3 4)) := zS_getf d30_1 (zcl1) (by decide) zi1 w305
theorem v30_4 (L : Nat) (xs : Nat → Int32) : zVal L xs 30 4 (.inl (i_il 2 5)) := zS_iload_n d30_4 rfl
theorem v30_5 (L : Nat) (xs : Nat → Int32) : zVal L xs 30 5 (.inl (i_ga 0 6)) := zS_iald d30_5
theorem v30_6 (L : Nat) (xs : Nat → Int32) : zVal L xs 30 6 (.inl (i_is 3 7)) := zS_istore_n d30_6 rfl
theorem v30_7 (L : Nat) (xs : Nat → Int32) : zVal L xs 30 7 (.inl (i_al 0 8)) := zS_aload_n d30_7 rfl
theorem v30_8 (L : Nat) (xs : Nat → Int32) : zVal L xs 30 8 (.inl (i_gf 1 1 11)) := zS_getf d30_8 (zcl1) (by decide) zi1 w303
theorem v30_11 (L : Nat) (xs : Nat → Int32) : zVal L xs 30 11 (.inl (i_al 0 12)) := zS_aload_n d30_11 rfl
theorem v30_12 (L : Nat) (xs : Nat → Int32) : zVal L xs 30 12 (.inl (i_gf 1 2 15)) := zS_getf d30_12 (zcl1) (by decide) zi1 w304
theorem v30_15 (L : Nat) (xs : Nat → Int32) : zVal L xs 30 15 (.inl (i_il 2 16)) := zS_iload_n d30_15 rfl
theorem v30_16 (L : Nat) (xs : Nat → Int32) : zVal L xs 30 16 (.inl (i_ga 0 17)) := zS_iald d30_16
theorem v30_17 (L : Nat) (xs : Nat → Int32) : zVal L xs 30 17 (.inl (i_al 0 18)) := zS_aload_n d30_17 rfl
theorem v30_18 (L : Nat) (xs : Nat → Int32) : zVal L xs 30 18 (.inl (i_gf 1 2 21)) := zS_getf d30_18 (zcl1) (by decide) zi1 w304
theorem v30_21 (L : Nat) (xs : Nat → Int32) : zVal L xs 30 21 (.inl (i_il 1 22)) := zS_iload_n d30_21 rfl
theorem v30_22 (L : Nat) (xs : Nat → Int32) : zVal L xs 30 22 (.inl (i_ga 0 23)) := zS_iald d30_22
theorem v30_23 (L : Nat) (xs : Nat → Int32) : zVal L xs 30 23 (.inl (i_bi (fun x y => x - y) 24)) := zS_isub d30_23
theorem v30_24 (L : Nat) (xs : Nat → Int32) : zVal L xs 30 24 (.inl (i_bi (fun x y => x - y) 25)) := zS_isub d30_24
theorem v30_25 (L : Nat) (xs : Nat → Int32) : zVal L xs 30 25 (.inl (i_il 3 26)) := zS_iload_n d30_25 rfl
theorem v30_26 (L : Nat) (xs : Nat → Int32) : zVal L xs 30 26 (.inl (i_c (.int 2) 27)) := zS_iconst d30_26 (by decide)
theorem v30_27 (L : Nat) (xs : Nat → Int32) : zVal L xs 30 27 (.inl (i_f2 (fun x y => decide (¬ x = y)) 34 30)) := zS_icmp_ne d30_27 (by decide)
theorem v30_30 (L : Nat) (xs : Nat → Int32) : zVal L xs 30 30 (.inl (i_c (.int 2) 31)) := zS_iconst d30_30 (by decide)
theorem v30_31 (L : Nat) (xs : Nat → Int32) : zVal L xs 30 31 (.inl (i_go 35)) := zS_goto d30_31 (by decide)
theorem v30_34 (L : Nat) (xs : Nat → Int32) : zVal L xs 30 34 (.inl (i_c (.int 0) 35)) := zS_iconst d30_34 (by decide)
theorem v30_35 (L : Nat) (xs : Nat → Int32) : zVal L xs 30 35 (.inl (i_k [false, true, false, false, true, true] (i_bi (fun x y => x - y) 36))) := zS_k (zS_isub d30_35)
theorem v30_36 (L : Nat) (xs : Nat → Int32) : zVal L xs 30 36 (.inl (i_is 4 38)) := zS_istore d30_36
theorem v30_38 (L : Nat) (xs : Nat → Int32) : zVal L xs 30 38 (.inl (i_il 3 39)) := zS_iload_n d30_38 rfl
theorem v30_39 (L : Nat) (xs : Nat → Int32) : zVal L xs 30 39 (.inl (i_f1 (fun x => decide (x = 0)) 47 42)) := zS_if_eq d30_39 (by decide)
theorem v30_42 (L : Nat) (xs : Nat → Int32) : zVal L xs 30 42 (.inl (i_il 4 44)) := zS_iload d30_42
theorem v30_44 (L : Nat) (xs : Nat → Int32) : zVal L xs 30 44 (.inl (i_f1 (fun x => decide (0 ≤ x)) 49 47)) := zS_if_ge d30_44 (by decide)
theorem v30_47 (L : Nat) (xs : Nat → Int32) : zVal L xs 30 47 (.inl (i_k [true, true, true, true, true, true] (i_c (.int (-1)) 48))) := zS_k (zS_iconst d30_47 (by decide))
theorem v30_48 (L : Nat) (xs : Nat → Int32) : zVal L xs 30 48 (.inr (.inr 1)) := zr_1 d30_48 rfl
theorem v30_49 (L : Nat) (xs : Nat → Int32) : zVal L xs 30 49 (.inl (i_il 3 50)) := zS_iload_n d30_49 rfl
theorem v30_50 (L : Nat) (xs : Nat → Int32) : zVal L xs 30 50 (.inl (i_c (.int 3) 51)) := zS_iconst d30_50 (by decide)
theorem v30_51 (L : Nat) (xs : Nat → Int32) : zVal L xs 30 51 (.inl (i_f2 (fun x y => decide (¬ x = y)) 56 54)) := zS_icmp_ne d30_51 (by decide)
theorem v30_54 (L : Nat) (xs : Nat → Int32) : zVal L xs 30 54 (.inl (i_c (.int 0) 55)) := zS_iconst d30_54 (by decide)
theorem v30_55 (L : Nat) (xs : Nat → Int32) : zVal L xs 30 55 (.inr (.inr 1)) := zr_1 d30_55 rfl
theorem v30_56 (L : Nat) (xs : Nat → Int32) : zVal L xs 30 56 (.inl (i_al 0 57)) := zS_aload_n d30_56 rfl
theorem v30_57 (L : Nat) (xs : Nat → Int32) : zVal L xs 30 57 (.inl (i_gf 1 4 60)) := zS_getf d30_57 (zcl1) (by decide) zi1 w306
theorem v30_60 (L : Nat) (xs : Nat → Int32) : zVal L xs 30 60 (.inl (i_al 0 61)) := zS_aload_n d30_60 rfl
theorem v30_61 (L : Nat) (xs : Nat → Int32) : zVal L xs 30 61 (.inl (i_il 2 62)) := zS_iload_n d30_61 rfl
theorem v30_62 (L : Nat) (xs : Nat → Int32) : zVal L xs 30 62 (.inr (.inl (31, 2, 2))) := ⟨by decide +kernel, by decide +kernel, zc_virt d30_62 zcl1 w594 w591 w593 w15 w78 ⟨by decide +kernel, by decide +kernel, by decide +kernel⟩ (by decide) (by decide)⟩
theorem v30_65 (L : Nat) (xs : Nat → Int32) : zVal L xs 30 65 (.inl (i_ga 0 66)) := zS_iald d30_65
theorem v30_66 (L : Nat) (xs : Nat → Int32) : zVal L xs 30 66 (.inl (i_is 5 68)) := zS_istore d30_66
theorem v30_68 (L : Nat) (xs : Nat → Int32) : zVal L xs 30 68 (.inl (i_il 5 70)) := zS_iload d30_68
theorem v30_70 (L : Nat) (xs : Nat → Int32) : zVal L xs 30 70 (.inl (i_c (.int (-1)) 71)) := zS_iconst d30_70 (by decide)
theorem v30_71 (L : Nat) (xs : Nat → Int32) : zVal L xs 30 71 (.inl (i_f2 (fun x y => decide (¬ x = y)) 78 74)) := zS_icmp_ne d30_71 (by decide)
theorem v30_74 (L : Nat) (xs : Nat → Int32) : zVal L xs 30 74 (.inl (i_c (.int (-1)) 75)) := zS_iconst d30_74 (by decide)
theorem v30_75 (L : Nat) (xs : Nat → Int32) : zVal L xs 30 75 (.inl (i_go 98)) := zS_goto d30_75 (by decide)
theorem v30_78 (L : Nat) (xs : Nat → Int32) : zVal L xs 30 78 (.inl (i_il 5 80)) := zS_iload d30_78
theorem v30_80 (L : Nat) (xs : Nat → Int32) : zVal L xs 30 80 (.inl (i_il 4 82)) := zS_iload d30_80
theorem v30_82 (L : Nat) (xs : Nat → Int32) : zVal L xs 30 82 (.inl (i_il 4 84)) := zS_iload d30_82
theorem v30_84 (L : Nat) (xs : Nat → Int32) : zVal L xs 30 84 (.inl (i_bi (fun x y => x * y) 85)) := zS_imul d30_84
theorem v30_85 (L : Nat) (xs : Nat → Int32) : zVal L xs 30 85 (.inl (i_bi (fun x y => x + y) 86)) := zS_iadd d30_85
theorem v30_86 (L : Nat) (xs : Nat → Int32) : zVal L xs 30 86 (.inl (i_il 3 87)) := zS_iload_n d30_86 rfl
theorem v30_87 (L : Nat) (xs : Nat → Int32) : zVal L xs 30 87 (.inl (i_c (.int 2) 88)) := zS_iconst d30_87 (by decide)
theorem v30_88 (L : Nat) (xs : Nat → Int32) : zVal L xs 30 88 (.inl (i_f2 (fun x y => decide (¬ x = y)) 96 91)) := zS_icmp_ne d30_88 (by decide)
theorem v30_91 (L : Nat) (xs : Nat → Int32) : zVal L xs 30 91 (.inl (i_c (.int 100) 93)) := zS_bipush d30_91 (by decide)
theorem v30_93 (L : Nat) (xs : Nat → Int32) : zVal L xs 30 93 (.inl (i_go 97)) := zS_goto d30_93 (by decide)
theorem v30_96 (L : Nat) (xs : Nat → Int32) : zVal L xs 30 96 (.inl (i_c (.int 0) 97)) := zS_iconst d30_96 (by decide)
theorem v30_97 (L : Nat) (xs : Nat → Int32) : zVal L xs 30 97 (.inl (i_k [true, true, true, true, true, true] (i_bi (fun x y => x + y) 98))) := zS_k (zS_iadd d30_97)
theorem v30_98 (L : Nat) (xs : Nat → Int32) : zVal L xs 30 98 (.inr (.inr 1)) := zr_1 d30_98 rfl
theorem vt30 (L : Nat) (xs : Nat → Int32) : zAll (fun x => zVal L xs 30 x.1 x.2) (tb30) := ⟨v30_0 L xs, v30_1 L xs, v30_4 L xs, v30_5 L xs, v30_6 L xs, v30_7 L xs, v30_8 L xs, v30_11 L xs, v30_12 L xs, v30_15 L xs, v30_16 L xs, v30_17 L xs, v30_18 L xs, v30_21 L xs, v30_22 L xs, v30_23 L xs, v30_24 L xs, v30_25 L xs, v30_26 L xs, v30_27 L xs, v30_30 L xs, v30_31 L xs, v30_34 L xs, v30_35 L xs, v30_36 L xs, v30_38 L xs, v30_39 L xs, v30_42 L xs, v30_44 L xs, v30_47 L xs, v30_48 L xs, v30_49 L xs, v30_50 L xs, v30_51 L xs, v30_54 L xs, v30_55 L xs, v30_56 L xs, v30_57 L xs, v30_60 L xs, v30_61 L xs, v30_62 L xs, v30_65 L xs, v30_66 L xs, v30_68 L xs, v30_70 L xs, v30_71 L xs, v30_74 L xs, v30_75 L xs, v30_78 L xs, v30_80 L xs, v30_82 L xs, v30_84 L xs, v30_85 L xs, v30_86 L xs, v30_87 L xs, v30_88 L xs, v30_91 L xs, v30_93 L xs, v30_96 L xs, v30_97 L xs, v30_98 L xs, trivial⟩
theorem d31_0 : decode (mB 31) 0 = .ok (.aload_n 0, 1) := by decide +kernel
theorem d31_1 : decode (mB 31) 1 = .ok (.getfield 22, 3) := by decide +kernel
theorem d31_4 : decode (mB 31) 4 = .ok (.iload_n 1, 1) := by decide +kernel
theorem d31_5 : decode (mB 31) 5 = .ok (.iaload, 1) := by decide +kernel
theorem d31_6 : decode (mB 31) 6 = .ok (.iconst 2, 1) := by decide +kernel
theorem d31_7 : decode (mB 31) 7 = .ok (.if_icmp .ne 7, 3) := by decide +kernel
theorem d31_10 : decode (mB 31) 10 = .ok (.iload_n 1, 1) := by decide +kernel
theorem d31_11 : decode (mB 31) 11 = .ok (.goto 6, 3) := by decide +kernel
theorem d31_14 : decode (mB 31) 14 = .ok (.iload_n 1, 1) := by decide +kernel
theorem d31_15 : decode (mB 31) 15 = .ok (.iconst 1, 1) := by decide +kernel
theorem d31_16 : decode (mB 31) 16 = .ok (.iadd, 1) := by decide +kernel
theorem d31_17 : decode (mB 31) 17 = .ok (.ireturn, 1) := by decide +kernel
theorem v31_0 (L : Nat) (xs : Nat → Int32) : zVal L xs 31 0 (.inl (i_al 0 1)) := zS_aload_n d31_0 rfl
theorem v31_1 (L : Nat) (xs : Nat → Int32) : zVal L xs 31 1 (.inl (i_gf 1 3 4)) := zS_getf d31_1 (zcl1) (by decide) zi1 w305
theorem v31_4 (L : Nat) (xs : Nat → Int32) : zVal L xs 31 4 (.inl (i_il 1 5)) := zS_iload_n d31_4 rfl
theorem v31_5 (L : Nat) (xs : Nat → Int32) : zVal L xs 31 5 (.inl (i_ga 0 6)) := zS_iald d31_5
theorem v31_6 (L : Nat) (xs : Nat → Int32) : zVal L xs 31 6 (.inl (i_c (.int 2) 7)) := zS_iconst d31_6 (by decide)
theorem v31_7 (L : Nat) (xs : Nat → Int32) : zVal L xs 31 7 (.inl (i_f2 (fun x y => decide (¬ x = y)) 14 10)) := zS_icmp_ne d31_7 (by decide)
theorem v31_10 (L : Nat) (xs : Nat → Int32) : zVal L xs 31 10 (.inl (i_il 1 11)) := zS_iload_n d31_10 rfl
theorem v31_11 (L : Nat) (xs : Nat → Int32) : zVal L xs 31 11 (.inl (i_go 17)) := zS_goto d31_11 (by decide)
theorem v31_14 (L : Nat) (xs : Nat → Int32) : zVal L xs 31 14 (.inl (i_il 1 15)) := zS_iload_n d31_14 rfl
theorem v31_15 (L : Nat) (xs : Nat → Int32) : zVal L xs 31 15 (.inl (i_c (.int 1) 16)) := zS_iconst d31_15 (by decide)
theorem v31_16 (L : Nat) (xs : Nat → Int32) : zVal L xs 31 16 (.inl (i_bi (fun x y => x + y) 17)) := zS_iadd d31_16
theorem v31_17 (L : Nat) (xs : Nat → Int32) : zVal L xs 31 17 (.inr (.inr 1)) := zr_1 d31_17 rfl
theorem vt31 (L : Nat) (xs : Nat → Int32) : zAll (fun x => zVal L xs 31 x.1 x.2) (tb31) := ⟨v31_0 L xs, v31_1 L xs, v31_4 L xs, v31_5 L xs, v31_6 L xs, v31_7 L xs, v31_10 L xs, v31_11 L xs, v31_14 L xs, v31_15 L xs, v31_16 L xs, v31_17 L xs, trivial⟩
theorem d32_0 : decode (mB 32) 0 = .ok (.aload_n 1, 1) := by decide +kernel
theorem d32_1 : decode (mB 32) 1 = .ok (.getfield 107, 3) := by decide +kernel
theorem d32_4 : decode (mB 32) 4 = .ok (.istore_n 3, 1) := by decide +kernel
theorem d32_5 : decode (mB 32) 5 = .ok (.iconst 0, 1) := by decide +kernel
theorem d32_6 : decode (mB 32) 6 = .ok (.istore 4, 2) := by decide +kernel
theorem d32_8 : decode (mB 32) 8 = .ok (.iconst 0, 1) := by decide +kernel
theorem d32_9 : decode (mB 32) 9 = .ok (.istore 5, 2) := by decide +kernel
theorem d32_11 : decode (mB 32) 11 = .ok (.iload 5, 2) := by decide +kernel
theorem d32_13 : decode (mB 32) 13 = .ok (.aload_n 0, 1) := by decide +kernel
theorem d32_14 : decode (mB 32) 14 = .ok (.getfield 55, 3) := by decide +kernel
theorem d32_17 : decode (mB 32) 17 = .ok (.if_icmp .ge 54, 3) := by decide +kernel
theorem d32_20 : decode (mB 32) 20 = .ok (.iload 4, 2) := by decide +kernel
theorem d32_22 : decode (mB 32) 22 = .ok (.aload_n 0, 1) := by decide +kernel
theorem d32_23 : decode (mB 32) 23 = .ok (.getfield 55, 3) := by decide +kernel
theorem d32_26 : decode (mB 32) 26 = .ok (.if_icmp .ge 45, 3) := by decide +kernel
theorem d32_29 : decode (mB 32) 29 = .ok (.aload_n 0, 1) := by decide +kernel
theorem d32_30 : decode (mB 32) 30 = .ok (.getfield 28, 3) := by decide +kernel
theorem d32_33 : decode (mB 32) 33 = .ok (.iload 4, 2) := by decide +kernel
theorem d32_35 : decode (mB 32) 35 = .ok (.iaload, 1) := by decide +kernel
theorem d32_36 : decode (mB 32) 36 = .ok (.istore 6, 2) := by decide +kernel
theorem d32_38 : decode (mB 32) 38 = .ok (.aload_n 1, 1) := by decide +kernel
theorem d32_39 : decode (mB 32) 39 = .ok (.iload_n 2, 1) := by decide +kernel
theorem d32_40 : decode (mB 32) 40 = .ok (.iload 4, 2) := by decide +kernel
theorem d32_42 : decode (mB 32) 42 = .ok (.iadd, 1) := by decide +kernel
theorem d32_43 : decode (mB 32) 43 = .ok (.iload_n 2, 1) := by decide +kernel
theorem d32_44 : decode (mB 32) 44 = .ok (.iload 6, 2) := by decide +kernel
theorem d32_46 : decode (mB 32) 46 = .ok (.iadd, 1) := by decide +kernel
theorem d32_47 : decode (mB 32) 47 = .ok (.aload_n 0, 1) := by decide +kernel
theorem d32_48 : decode (mB 32) 48 = .ok (.getfield 22, 3) := by decide +kernel
theorem d32_51 : decode (mB 32) 51 = .ok (.iload 6, 2) := by decide +kernel
theorem d32_53 : decode (mB 32) 53 = .ok (.iaload, 1) := by decide +kernel
theorem d32_54 : decode (mB 32) 54 = .ok (.invokevirtual 110, 3) := by decide +kernel
theorem d32_57 : decode (mB 32) 57 = .ok (.aload_n 0, 1) := by decide +kernel
theorem d32_58 : decode (mB 32) 58 = .ok (.iload 6, 2) := by decide +kernel
theorem d32_60 : decode (mB 32) 60 = .ok (.invokevirtual 103, 3) := by decide +kernel
theorem d32_63 : decode (mB 32) 63 = .ok (.istore 4, 2) := by decide +kernel
theorem d32_65 : decode (mB 32) 65 = .ok (.iinc 5 1, 3) := by decide +kernel
theorem d32_68 : decode (mB 32) 68 = .ok (.goto (-57), 3) := by decide +kernel
theorem d32_71 : decode (mB 32) 71 = .ok (.aload_n 1, 1) := by decide +kernel
theorem d32_72 : decode (mB 32) 72 = .ok (.iload_n 3, 1) := by decide +kernel
theorem d32_73 : decode (mB 32) 73 = .ok (.invokevirtual 113, 3) := by decide +kernel
theorem d32_76 : decode (mB 32) 76 = .ok (.return_, 1) := by decide +kernel
theorem v32_0 (L : Nat) (xs : Nat → Int32) : zVal L xs 32 0 (.inl (i_al 1 1)) := zS_aload_n d32_0 rfl
theorem v32_1 (L : Nat) (xs : Nat → Int32) : zVal L xs 32 1 (.inl (i_gf 9 15 4)) := zS_getfN (host := "EditionGrid") d32_1 (zcl9) (by decide) zi9 (by decide +kernel)
theorem v32_4 (L : Nat) (xs : Nat → Int32) : zVal L xs 32 4 (.inl (i_is 3 5)) := zS_istore_n d32_4 rfl
theorem v32_5 (L : Nat) (xs : Nat → Int32) : zVal L xs 32 5 (.inl (i_c (.int 0) 6)) := zS_iconst d32_5 (by decide)
theorem v32_6 (L : Nat) (xs : Nat → Int32) : zVal L xs 32 6 (.inl (i_is 4 8)) := zS_istore d32_6
theorem v32_8 (L : Nat) (xs : Nat → Int32) : zVal L xs 32 8 (.inl (i_c (.int 0) 9)) := zS_iconst d32_8 (by decide)
theorem v32_9 (L : Nat) (xs : Nat → Int32) : zVal L xs 32 9 (.inl (i_is 5 11)) := zS_istore d32_9
theorem v32_11 (L : Nat) (xs : Nat → Int32) : zVal L xs 32 11 (.inl (i_k [false, false, false, false, false, false, true] (i_il 5 13))) := zS_k (zS_iload d32_11)
theorem v32_13 (L : Nat) (xs : Nat → Int32) : zVal L xs 32 13 (.inl (i_al 0 14)) := zS_aload_n d32_13 rfl
theorem v32_14 (L : Nat) (xs : Nat → Int32) : zVal L xs 32 14 (.inl (i_gf 1 6 17)) := zS_getf d32_14 (zcl1) (by decide) zi1 w308
theorem v32_17 (L : Nat) (xs : Nat → Int32) : zVal L xs 32 17 (.inl (i_f2 (fun x y => decide (y ≤ x)) 71 20)) := zS_icmp_ge d32_17 (by decide)
theorem v32_20 (L : Nat) (xs : Nat → Int32) : zVal L xs 32 20 (.inl (i_il 4 22)) := zS_iload d32_20
theorem v32_22 (L : Nat) (xs : Nat → Int32) : zVal L xs 32 22 (.inl (i_al 0 23)) := zS_aload_n d32_22 rfl
theorem v32_23 (L : Nat) (xs : Nat → Int32) : zVal L xs 32 23 (.inl (i_gf 1 6 26)) := zS_getf d32_23 (zcl1) (by decide) zi1 w308
theorem v32_26 (L : Nat) (xs : Nat → Int32) : zVal L xs 32 26 (.inl (i_f2 (fun x y => decide (y ≤ x)) 71 29)) := zS_icmp_ge d32_26 (by decide)
theorem v32_29 (L : Nat) (xs : Nat → Int32) : zVal L xs 32 29 (.inl (i_al 0 30)) := zS_aload_n d32_29 rfl
theorem v32_30 (L : Nat) (xs : Nat → Int32) : zVal L xs 32 30 (.inl (i_gf 1 5 33)) := zS_getf d32_30 (zcl1) (by decide) zi1 w307
theorem v32_33 (L : Nat) (xs : Nat → Int32) : zVal L xs 32 33 (.inl (i_il 4 35)) := zS_iload d32_33
theorem v32_35 (L : Nat) (xs : Nat → Int32) : zVal L xs 32 35 (.inl (i_ga 0 36)) := zS_iald d32_35
theorem v32_36 (L : Nat) (xs : Nat → Int32) : zVal L xs 32 36 (.inl (i_is 6 38)) := zS_istore d32_36
theorem v32_38 (L : Nat) (xs : Nat → Int32) : zVal L xs 32 38 (.inl (i_al 1 39)) := zS_aload_n d32_38 rfl
theorem v32_39 (L : Nat) (xs : Nat → Int32) : zVal L xs 32 39 (.inl (i_il 2 40)) := zS_iload_n d32_39 rfl
theorem v32_40 (L : Nat) (xs : Nat → Int32) : zVal L xs 32 40 (.inl (i_il 4 42)) := zS_iload d32_40
theorem v32_42 (L : Nat) (xs : Nat → Int32) : zVal L xs 32 42 (.inl (i_bi (fun x y => x + y) 43)) := zS_iadd d32_42
theorem v32_43 (L : Nat) (xs : Nat → Int32) : zVal L xs 32 43 (.inl (i_il 2 44)) := zS_iload_n d32_43 rfl
theorem v32_44 (L : Nat) (xs : Nat → Int32) : zVal L xs 32 44 (.inl (i_il 6 46)) := zS_iload d32_44
theorem v32_46 (L : Nat) (xs : Nat → Int32) : zVal L xs 32 46 (.inl (i_bi (fun x y => x + y) 47)) := zS_iadd d32_46
theorem v32_47 (L : Nat) (xs : Nat → Int32) : zVal L xs 32 47 (.inl (i_al 0 48)) := zS_aload_n d32_47 rfl
theorem v32_48 (L : Nat) (xs : Nat → Int32) : zVal L xs 32 48 (.inl (i_gf 1 3 51)) := zS_getf d32_48 (zcl1) (by decide) zi1 w305
theorem v32_51 (L : Nat) (xs : Nat → Int32) : zVal L xs 32 51 (.inl (i_il 6 53)) := zS_iload d32_51
theorem v32_53 (L : Nat) (xs : Nat → Int32) : zVal L xs 32 53 (.inl (i_ga 0 54)) := zS_iald d32_53
theorem v32_54 (L : Nat) (xs : Nat → Int32) : zVal L xs 32 54 (.inr (.inl (91, 4, 10))) := ⟨by decide +kernel, by decide +kernel, zc_virt d32_54 zcl9 w602 w599 w600 w601 w75 ⟨by decide +kernel, by decide +kernel, by decide +kernel⟩ (by decide) (by decide)⟩
theorem v32_57 (L : Nat) (xs : Nat → Int32) : zVal L xs 32 57 (.inl (i_al 0 58)) := zS_aload_n d32_57 rfl
theorem v32_58 (L : Nat) (xs : Nat → Int32) : zVal L xs 32 58 (.inl (i_il 6 60)) := zS_iload d32_58
theorem v32_60 (L : Nat) (xs : Nat → Int32) : zVal L xs 32 60 (.inr (.inl (31, 2, 2))) := ⟨by decide +kernel, by decide +kernel, zc_virt d32_60 zcl1 w594 w591 w593 w15 w78 ⟨by decide +kernel, by decide +kernel, by decide +kernel⟩ (by decide) (by decide)⟩
theorem v32_63 (L : Nat) (xs : Nat → Int32) : zVal L xs 32 63 (.inl (i_is 4 65)) := zS_istore d32_63
theorem v32_65 (L : Nat) (xs : Nat → Int32) : zVal L xs 32 65 (.inl (i_in 5 1 68)) := zS_iinc d32_65 (by decide)
theorem v32_68 (L : Nat) (xs : Nat → Int32) : zVal L xs 32 68 (.inl (i_go 11)) := zS_goto d32_68 (by decide)
theorem v32_71 (L : Nat) (xs : Nat → Int32) : zVal L xs 32 71 (.inl (i_k [true, false, true, false, true, true, true] (i_al 1 72))) := zS_k (zS_aload_n d32_71 rfl)
theorem v32_72 (L : Nat) (xs : Nat → Int32) : zVal L xs 32 72 (.inl (i_il 3 73)) := zS_iload_n d32_72 rfl
theorem v32_73 (L : Nat) (xs : Nat → Int32) : zVal L xs 32 73 (.inr (.inl (92, 2, 10))) := ⟨by decide +kernel, by decide +kernel, zc_virt d32_73 zcl9 w606 w603 w604 w605 w75 ⟨by decide +kernel, by decide +kernel, by decide +kernel⟩ (by decide) (by decide)⟩
theorem v32_76 (L : Nat) (xs : Nat → Int32) : zVal L xs 32 76 (.inr (.inr 0)) := zr_0 d32_76 rfl
theorem vt32 (L : Nat) (xs : Nat → Int32) : zAll (fun x => zVal L xs 32 x.1 x.2) (tb32) := ⟨v32_0 L xs, v32_1 L xs, v32_4 L xs, v32_5 L xs, v32_6 L xs, v32_8 L xs, v32_9 L xs, v32_11 L xs, v32_13 L xs, v32_14 L xs, v32_17 L xs, v32_20 L xs, v32_22 L xs, v32_23 L xs, v32_26 L xs, v32_29 L xs, v32_30 L xs, v32_33 L xs, v32_35 L xs, v32_36 L xs, v32_38 L xs, v32_39 L xs, v32_40 L xs, v32_42 L xs, v32_43 L xs, v32_44 L xs, v32_46 L xs, v32_47 L xs, v32_48 L xs, v32_51 L xs, v32_53 L xs, v32_54 L xs, v32_57 L xs, v32_58 L xs, v32_60 L xs, v32_63 L xs, v32_65 L xs, v32_68 L xs, v32_71 L xs, v32_72 L xs, v32_73 L xs, v32_76 L xs, trivial⟩
theorem d33_0 : decode (mB 33) 0 = .ok (.aload_n 0, 1) := by decide +kernel
theorem d33_1 : decode (mB 33) 1 = .ok (.invokespecial 3, 3) := by decide +kernel
theorem d33_4 : decode (mB 33) 4 = .ok (.aload_n 0, 1) := by decide +kernel
theorem d33_5 : decode (mB 33) 5 = .ok (.iconst 4, 1) := by decide +kernel
theorem d33_6 : decode (mB 33) 6 = .ok (.newarray .int, 2) := by decide +kernel
theorem d33_8 : decode (mB 33) 8 = .ok (.putfield 9, 3) := by decide +kernel
theorem d33_11 : decode (mB 33) 11 = .ok (.aload_n 0, 1) := by decide +kernel
theorem d33_12 : decode (mB 33) 12 = .ok (.iconst 5, 1) := by decide +kernel
theorem d33_13 : decode (mB 33) 13 = .ok (.newarray .long, 2) := by decide +kernel
theorem d33_15 : decode (mB 33) 15 = .ok (.putfield 15, 3) := by decide +kernel
theorem d33_18 : decode (mB 33) 18 = .ok (.return_, 1) := by decide +kernel
theorem v33_0 (L : Nat) (xs : Nat → Int32) : zVal L xs 33 0 (.inl (i_al 0 1)) := zS_aload_n d33_0 rfl
theorem v33_1 (L : Nat) (xs : Nat → Int32) : zVal L xs 33 1 (.inl (i_oi 4)) := zS_oinit d33_1 w335 w93 w94 (by decide)
theorem v33_4 (L : Nat) (xs : Nat → Int32) : zVal L xs 33 4 (.inl (i_al 0 5)) := zS_aload_n d33_4 rfl
theorem v33_5 (L : Nat) (xs : Nat → Int32) : zVal L xs 33 5 (.inl (i_c (.int 4) 6)) := zS_iconst d33_5 (by decide)
theorem v33_6 (L : Nat) (xs : Nat → Int32) : zVal L xs 33 6 (.inl (i_na (2, 9) 0 (.inl (fun _ => 0)) 8)) := zS_newa (ty := .int) d33_6 w150 rfl (by decide) (fun _ => rfl) (fun _ => rfl) (fun _ _ => rfl) (fun _ _ h => h)
theorem v33_8 (L : Nat) (xs : Nat → Int32) : zVal L xs 33 8 (.inl (i_pf 2 0 okR 11)) := zS_putfF (ty := .array .int) d33_8 (zcl2) (by decide) zi2 w336 zy2 zn2 (by decide +kernel) (by decide +kernel) (by decide +kernel) (by decide +kernel) (okA_ok (.int))
theorem v33_11 (L : Nat) (xs : Nat → Int32) : zVal L xs 33 11 (.inl (i_al 0 12)) := zS_aload_n d33_11 rfl
theorem v33_12 (L : Nat) (xs : Nat → Int32) : zVal L xs 33 12 (.inl (i_c (.int 5) 13)) := zS_iconst d33_12 (by decide)
theorem v33_13 (L : Nat) (xs : Nat → Int32) : zVal L xs 33 13 (.inl (i_na (2, 9) 1 (.inr (.inl (fun _ => 0))) 15)) := zS_newa (ty := .long) d33_13 w300 rfl (by decide) (fun _ => rfl) (fun _ => rfl) (fun _ _ => rfl) (fun _ _ h => h)
theorem v33_15 (L : Nat) (xs : Nat → Int32) : zVal L xs 33 15 (.inl (i_pf 2 1 okR 18)) := zS_putfF (ty := .array .long) d33_15 (zcl2) (by decide) zi2 w337 zy2 zn2 (by decide +kernel) (by decide +kernel) (by decide +kernel) (by decide +kernel) (okA_ok (.long))
theorem v33_18 (L : Nat) (xs : Nat → Int32) : zVal L xs 33 18 (.inr (.inr 0)) := zr_0 d33_18 rfl
theorem vt33 (L : Nat) (xs : Nat → Int32) : zAll (fun x => zVal L xs 33 x.1 x.2) (tb33) := ⟨v33_0 L xs, v33_1 L xs, v33_4 L xs, v33_5 L xs, v33_6 L xs, v33_8 L xs, v33_11 L xs, v33_12 L xs, v33_13 L xs, v33_15 L xs, v33_18 L xs, trivial⟩
theorem d34_0 : decode (mB 34) 0 = .ok (.iload_n 2, 1) := by decide +kernel
theorem d34_1 : decode (mB 34) 1 = .ok (.ifCond .ne 10, 3) := by decide +kernel
theorem d34_4 : decode (mB 34) 4 = .ok (.aload_n 1, 1) := by decide +kernel
theorem d34_5 : decode (mB 34) 5 = .ok (.getfield 19, 3) := by decide +kernel
theorem d34_8 : decode (mB 34) 8 = .ok (.goto 4, 3) := by decide +kernel
theorem d34_11 : decode (mB 34) 11 = .ok (.iconst 0, 1) := by decide +kernel
theorem d34_12 : decode (mB 34) 12 = .ok (.istore 6, 2) := by decide +kernel
theorem d34_14 : decode (mB 34) 14 = .ok (.iload 6, 2) := by decide +kernel
theorem d34_16 : decode (mB 34) 16 = .ok (.iload_n 3, 1) := by decide +kernel
theorem d34_17 : decode (mB 34) 17 = .ok (.if_icmp .le 5, 3) := by decide +kernel
theorem d34_20 : decode (mB 34) 20 = .ok (.iconst 0, 1) := by decide +kernel
theorem d34_21 : decode (mB 34) 21 = .ok (.ireturn, 1) := by decide +kernel
theorem d34_22 : decode (mB 34) 22 = .ok (.aload_n 0, 1) := by decide +kernel
theorem d34_23 : decode (mB 34) 23 = .ok (.iload_n 3, 1) := by decide +kernel
theorem d34_24 : decode (mB 34) 24 = .ok (.putfield 25, 3) := by decide +kernel
theorem d34_27 : decode (mB 34) 27 = .ok (.iconst 0, 1) := by decide +kernel
theorem d34_28 : decode (mB 34) 28 = .ok (.istore 7, 2) := by decide +kernel
theorem d34_30 : decode (mB 34) 30 = .ok (.iload 7, 2) := by decide +kernel
theorem d34_32 : decode (mB 34) 32 = .ok (.iload_n 3, 1) := by decide +kernel
theorem d34_33 : decode (mB 34) 33 = .ok (.if_icmp .ge 61, 3) := by decide +kernel
theorem d34_36 : decode (mB 34) 36 = .ok (.aload_n 0, 1) := by decide +kernel
theorem d34_37 : decode (mB 34) 37 = .ok (.getfield 9, 3) := by decide +kernel
theorem d34_40 : decode (mB 34) 40 = .ok (.iload 7, 2) := by decide +kernel
theorem d34_42 : decode (mB 34) 42 = .ok (.iload 4, 2) := by decide +kernel
theorem d34_44 : decode (mB 34) 44 = .ok (.iload 7, 2) := by decide +kernel
theorem d34_46 : decode (mB 34) 46 = .ok (.iload 6, 2) := by decide +kernel
theorem d34_48 : decode (mB 34) 48 = .ok (.if_icmp .ge 10, 3) := by decide +kernel
theorem d34_51 : decode (mB 34) 51 = .ok (.aload_n 1, 1) := by decide +kernel
theorem d34_52 : decode (mB 34) 52 = .ok (.getfield 28, 3) := by decide +kernel
theorem d34_55 : decode (mB 34) 55 = .ok (.goto 4, 3) := by decide +kernel
theorem d34_58 : decode (mB 34) 58 = .ok (.iconst 0, 1) := by decide +kernel
theorem d34_59 : decode (mB 34) 59 = .ok (.isub, 1) := by decide +kernel
theorem d34_60 : decode (mB 34) 60 = .ok (.iload 7, 2) := by decide +kernel
theorem d34_62 : decode (mB 34) 62 = .ok (.iload_n 3, 1) := by decide +kernel
theorem d34_63 : decode (mB 34) 63 = .ok (.iconst 1, 1) := by decide +kernel
theorem d34_64 : decode (mB 34) 64 = .ok (.isub, 1) := by decide +kernel
theorem d34_65 : decode (mB 34) 65 = .ok (.if_icmp .ne 8, 3) := by decide +kernel
theorem d34_68 : decode (mB 34) 68 = .ok (.iload 5, 2) := by decide +kernel
theorem d34_70 : decode (mB 34) 70 = .ok (.goto 4, 3) := by decide +kernel
theorem d34_73 : decode (mB 34) 73 = .ok (.iconst 0, 1) := by decide +kernel
theorem d34_74 : decode (mB 34) 74 = .ok (.isub, 1) := by decide +kernel
theorem d34_75 : decode (mB 34) 75 = .ok (.iastore, 1) := by decide +kernel
theorem d34_76 : decode (mB 34) 76 = .ok (.aload_n 0, 1) := by decide +kernel
theorem d34_77 : decode (mB 34) 77 = .ok (.getfield 9, 3) := by decide +kernel
theorem d34_80 : decode (mB 34) 80 = .ok (.iload 7, 2) := by decide +kernel
theorem d34_82 : decode (mB 34) 82 = .ok (.iaload, 1) := by decide +kernel
theorem d34_83 : decode (mB 34) 83 = .ok (.ifCond .ge 5, 3) := by decide +kernel
theorem d34_86 : decode (mB 34) 86 = .ok (.iconst 0, 1) := by decide +kernel
theorem d34_87 : decode (mB 34) 87 = .ok (.ireturn, 1) := by decide +kernel
theorem d34_88 : decode (mB 34) 88 = .ok (.iinc 7 1, 3) := by decide +kernel
theorem d34_91 : decode (mB 34) 91 = .ok (.goto (-61), 3) := by decide +kernel
theorem d34_94 : decode (mB 34) 94 = .ok (.iconst 1, 1) := by decide +kernel
theorem d34_95 : decode (mB 34) 95 = .ok (.ireturn, 1) := by decide +kernel
theorem v34_0 (L : Nat) (xs : Nat → Int32) : zVal L xs 34 0 (.inl (i_il 2 1)) := zS_iload_n d34_0 rfl
theorem v34_1 (L : Nat) (xs : Nat → Int32) : zVal L xs 34 1 (.inl (i_f1 (fun x => decide (¬ x = 0)) 11 4)) := zS_if_ne d34_1 (by decide)
theorem v34_4 (L : Nat) (xs : Nat → Int32) : zVal L xs 34 4 (.inl (i_al 1 5)) := zS_aload_n d34_4 rfl
theorem v34_5 (L : Nat) (xs : Nat → Int32) : zVal L xs 34 5 (.inl (i_gf 9 12 8)) := zS_getfN (host := "EditionGrid") d34_5 (zcl9) (by decide) zi9 (by decide +kernel)
theorem v34_8 (L : Nat) (xs : Nat → Int32) : zVal L xs 34 8 (.inl (i_go 12)) := zS_goto d34_8 (by decide)
theorem v34_11 (L : Nat) (xs : Nat → Int32) : zVal L xs 34 11 (.inl (i_c (.int 0) 12)) := zS_iconst d34_11 (by decide)
theorem v34_12 (L : Nat) (xs : Nat → Int32) : zVal L xs 34 12 (.inl (i_k [false, false, true, false, false, false, true, true] (i_is 6 14))) := zS_k (zS_istore d34_12)
theorem v34_14 (L : Nat) (xs : Nat → Int32) : zVal L xs 34 14 (.inl (i_il 6 16)) := zS_iload d34_14
theorem v34_16 (L : Nat) (xs : Nat → Int32) : zVal L xs 34 16 (.inl (i_il 3 17)) := zS_iload_n d34_16 rfl
theorem v34_17 (L : Nat) (xs : Nat → Int32) : zVal L xs 34 17 (.inl (i_f2 (fun x y => decide (x ≤ y)) 22 20)) := zS_icmp_le d34_17 (by decide)
theorem v34_20 (L : Nat) (xs : Nat → Int32) : zVal L xs 34 20 (.inl (i_c (.int 0) 21)) := zS_iconst d34_20 (by decide)
theorem v34_21 (L : Nat) (xs : Nat → Int32) : zVal L xs 34 21 (.inr (.inr 2)) := zr_2 d34_21 rfl
theorem v34_22 (L : Nat) (xs : Nat → Int32) : zVal L xs 34 22 (.inl (i_al 0 23)) := zS_aload_n d34_22 rfl
theorem v34_23 (L : Nat) (xs : Nat → Int32) : zVal L xs 34 23 (.inl (i_il 3 24)) := zS_iload_n d34_23 rfl
theorem v34_24 (L : Nat) (xs : Nat → Int32) : zVal L xs 34 24 (.inl (i_pf 2 2 okI 27)) := zS_putf (ty := .int) d34_24 (zcl2) (by decide) zi2 w338 zy2 zn2 (by decide +kernel) (by decide +kernel) okI_ok
theorem v34_27 (L : Nat) (xs : Nat → Int32) : zVal L xs 34 27 (.inl (i_c (.int 0) 28)) := zS_iconst d34_27 (by decide)
theorem v34_28 (L : Nat) (xs : Nat → Int32) : zVal L xs 34 28 (.inl (i_is 7 30)) := zS_istore d34_28
theorem v34_30 (L : Nat) (xs : Nat → Int32) : zVal L xs 34 30 (.inl (i_k [false, false, true, false, false, false, false, false] (i_il 7 32))) := zS_k (zS_iload d34_30)
theorem v34_32 (L : Nat) (xs : Nat → Int32) : zVal L xs 34 32 (.inl (i_il 3 33)) := zS_iload_n d34_32 rfl
theorem v34_33 (L : Nat) (xs : Nat → Int32) : zVal L xs 34 33 (.inl (i_f2 (fun x y => decide (y ≤ x)) 94 36)) := zS_icmp_ge d34_33 (by decide)
theorem v34_36 (L : Nat) (xs : Nat → Int32) : zVal L xs 34 36 (.inl (i_al 0 37)) := zS_aload_n d34_36 rfl
theorem v34_37 (L : Nat) (xs : Nat → Int32) : zVal L xs 34 37 (.inl (i_gf 2 0 40)) := zS_getf d34_37 (zcl2) (by decide) zi2 w336
theorem v34_40 (L : Nat) (xs : Nat → Int32) : zVal L xs 34 40 (.inl (i_il 7 42)) := zS_iload d34_40
theorem v34_42 (L : Nat) (xs : Nat → Int32) : zVal L xs 34 42 (.inl (i_il 4 44)) := zS_iload d34_42
theorem v34_44 (L : Nat) (xs : Nat → Int32) : zVal L xs 34 44 (.inl (i_il 7 46)) := zS_iload d34_44
theorem v34_46 (L : Nat) (xs : Nat → Int32) : zVal L xs 34 46 (.inl (i_il 6 48)) := zS_iload d34_46
theorem v34_48 (L : Nat) (xs : Nat → Int32) : zVal L xs 34 48 (.inl (i_f2 (fun x y => decide (y ≤ x)) 58 51)) := zS_icmp_ge d34_48 (by decide)
theorem v34_51 (L : Nat) (xs : Nat → Int32) : zVal L xs 34 51 (.inl (i_al 1 52)) := zS_aload_n d34_51 rfl
theorem v34_52 (L : Nat) (xs : Nat → Int32) : zVal L xs 34 52 (.inl (i_gf 9 13 55)) := zS_getfN (host := "EditionGrid") d34_52 (zcl9) (by decide) zi9 (by decide +kernel)
theorem v34_55 (L : Nat) (xs : Nat → Int32) : zVal L xs 34 55 (.inl (i_go 59)) := zS_goto d34_55 (by decide)
theorem v34_58 (L : Nat) (xs : Nat → Int32) : zVal L xs 34 58 (.inl (i_c (.int 0) 59)) := zS_iconst d34_58 (by decide)
theorem v34_59 (L : Nat) (xs : Nat → Int32) : zVal L xs 34 59 (.inl (i_k [false, false, true, false, false, false, false, false] (i_bi (fun x y => x - y) 60))) := zS_k (zS_isub d34_59)
theorem v34_60 (L : Nat) (xs : Nat → Int32) : zVal L xs 34 60 (.inl (i_il 7 62)) := zS_iload d34_60
theorem v34_62 (L : Nat) (xs : Nat → Int32) : zVal L xs 34 62 (.inl (i_il 3 63)) := zS_iload_n d34_62 rfl
theorem v34_63 (L : Nat) (xs : Nat → Int32) : zVal L xs 34 63 (.inl (i_c (.int 1) 64)) := zS_iconst d34_63 (by decide)
theorem v34_64 (L : Nat) (xs : Nat → Int32) : zVal L xs 34 64 (.inl (i_bi (fun x y => x - y) 65)) := zS_isub d34_64
theorem v34_65 (L : Nat) (xs : Nat → Int32) : zVal L xs 34 65 (.inl (i_f2 (fun x y => decide (¬ x = y)) 73 68)) := zS_icmp_ne d34_65 (by decide)
theorem v34_68 (L : Nat) (xs : Nat → Int32) : zVal L xs 34 68 (.inl (i_il 5 70)) := zS_iload d34_68
theorem v34_70 (L : Nat) (xs : Nat → Int32) : zVal L xs 34 70 (.inl (i_go 74)) := zS_goto d34_70 (by decide)
theorem v34_73 (L : Nat) (xs : Nat → Int32) : zVal L xs 34 73 (.inl (i_c (.int 0) 74)) := zS_iconst d34_73 (by decide)
theorem v34_74 (L : Nat) (xs : Nat → Int32) : zVal L xs 34 74 (.inl (i_k [false, false, true, false, false, false, false, false] (i_bi (fun x y => x - y) 75))) := zS_k (zS_isub d34_74)
theorem v34_75 (L : Nat) (xs : Nat → Int32) : zVal L xs 34 75 (.inl (i_pa 0 (fun x => x) 76)) := zS_iast d34_75
theorem v34_76 (L : Nat) (xs : Nat → Int32) : zVal L xs 34 76 (.inl (i_al 0 77)) := zS_aload_n d34_76 rfl
theorem v34_77 (L : Nat) (xs : Nat → Int32) : zVal L xs 34 77 (.inl (i_gf 2 0 80)) := zS_getf d34_77 (zcl2) (by decide) zi2 w336
theorem v34_80 (L : Nat) (xs : Nat → Int32) : zVal L xs 34 80 (.inl (i_il 7 82)) := zS_iload d34_80
theorem v34_82 (L : Nat) (xs : Nat → Int32) : zVal L xs 34 82 (.inl (i_ga 0 83)) := zS_iald d34_82
theorem v34_83 (L : Nat) (xs : Nat → Int32) : zVal L xs 34 83 (.inl (i_f1 (fun x => decide (0 ≤ x)) 88 86)) := zS_if_ge d34_83 (by decide)
theorem v34_86 (L : Nat) (xs : Nat → Int32) : zVal L xs 34 86 (.inl (i_c (.int 0) 87)) := zS_iconst d34_86 (by decide)
theorem v34_87 (L : Nat) (xs : Nat → Int32) : zVal L xs 34 87 (.inr (.inr 2)) := zr_2 d34_87 rfl
theorem v34_88 (L : Nat) (xs : Nat → Int32) : zVal L xs 34 88 (.inl (i_in 7 1 91)) := zS_iinc d34_88 (by decide)
theorem v34_91 (L : Nat) (xs : Nat → Int32) : zVal L xs 34 91 (.inl (i_go 30)) := zS_goto d34_91 (by decide)
theorem v34_94 (L : Nat) (xs : Nat → Int32) : zVal L xs 34 94 (.inl (i_c (.int 1) 95)) := zS_iconst d34_94 (by decide)
theorem v34_95 (L : Nat) (xs : Nat → Int32) : zVal L xs 34 95 (.inr (.inr 2)) := zr_2 d34_95 rfl
theorem vt34 (L : Nat) (xs : Nat → Int32) : zAll (fun x => zVal L xs 34 x.1 x.2) (tb34) := ⟨v34_0 L xs, v34_1 L xs, v34_4 L xs, v34_5 L xs, v34_8 L xs, v34_11 L xs, v34_12 L xs, v34_14 L xs, v34_16 L xs, v34_17 L xs, v34_20 L xs, v34_21 L xs, v34_22 L xs, v34_23 L xs, v34_24 L xs, v34_27 L xs, v34_28 L xs, v34_30 L xs, v34_32 L xs, v34_33 L xs, v34_36 L xs, v34_37 L xs, v34_40 L xs, v34_42 L xs, v34_44 L xs, v34_46 L xs, v34_48 L xs, v34_51 L xs, v34_52 L xs, v34_55 L xs, v34_58 L xs, v34_59 L xs, v34_60 L xs, v34_62 L xs, v34_63 L xs, v34_64 L xs, v34_65 L xs, v34_68 L xs, v34_70 L xs, v34_73 L xs, v34_74 L xs, v34_75 L xs, v34_76 L xs, v34_77 L xs, v34_80 L xs, v34_82 L xs, v34_83 L xs, v34_86 L xs, v34_87 L xs, v34_88 L xs, v34_91 L xs, v34_94 L xs, v34_95 L xs, trivial⟩
theorem d35_0 : decode (mB 35) 0 = .ok (.lconst 1, 1) := by decide +kernel
theorem d35_1 : decode (mB 35) 1 = .ok (.iload_n 1, 1) := by decide +kernel
theorem d35_2 : decode (mB 35) 2 = .ok (.lshl, 1) := by decide +kernel
theorem d35_3 : decode (mB 35) 3 = .ok (.lstore 4, 2) := by decide +kernel
theorem d35_5 : decode (mB 35) 5 = .ok (.iconst 0, 1) := by decide +kernel
theorem d35_6 : decode (mB 35) 6 = .ok (.istore 6, 2) := by decide +kernel
theorem d35_8 : decode (mB 35) 8 = .ok (.iload 6, 2) := by decide +kernel
theorem d35_10 : decode (mB 35) 10 = .ok (.aload_n 0, 1) := by decide +kernel
theorem d35_11 : decode (mB 35) 11 = .ok (.getfield 25, 3) := by decide +kernel
theorem d35_14 : decode (mB 35) 14 = .ok (.if_icmp .ge 49, 3) := by decide +kernel
theorem d35_17 : decode (mB 35) 17 = .ok (.lconst 0, 1) := by decide +kernel
theorem d35_18 : decode (mB 35) 18 = .ok (.lstore 7, 2) := by decide +kernel
theorem d35_20 : decode (mB 35) 20 = .ok (.iconst 0, 1) := by decide +kernel
theorem d35_21 : decode (mB 35) 21 = .ok (.istore 9, 2) := by decide +kernel
theorem d35_23 : decode (mB 35) 23 = .ok (.iload 9, 2) := by decide +kernel
theorem d35_25 : decode (mB 35) 25 = .ok (.aload_n 0, 1) := by decide +kernel
theorem d35_26 : decode (mB 35) 26 = .ok (.getfield 9, 3) := by decide +kernel
theorem d35_29 : decode (mB 35) 29 = .ok (.iload 6, 2) := by decide +kernel
theorem d35_31 : decode (mB 35) 31 = .ok (.iaload, 1) := by decide +kernel
theorem d35_32 : decode (mB 35) 32 = .ok (.if_icmp .gt 19, 3) := by decide +kernel
theorem d35_35 : decode (mB 35) 35 = .ok (.lload 7, 2) := by decide +kernel
theorem d35_37 : decode (mB 35) 37 = .ok (.lload 4, 2) := by decide +kernel
theorem d35_39 : decode (mB 35) 39 = .ok (.iload 9, 2) := by decide +kernel
theorem d35_41 : decode (mB 35) 41 = .ok (.lshl, 1) := by decide +kernel
theorem d35_42 : decode (mB 35) 42 = .ok (.lor, 1) := by decide +kernel
theorem d35_43 : decode (mB 35) 43 = .ok (.lstore 7, 2) := by decide +kernel
theorem d35_45 : decode (mB 35) 45 = .ok (.iinc 9 1, 3) := by decide +kernel
theorem d35_48 : decode (mB 35) 48 = .ok (.goto (-25), 3) := by decide +kernel
theorem d35_51 : decode (mB 35) 51 = .ok (.lload 7, 2) := by decide +kernel
theorem d35_53 : decode (mB 35) 53 = .ok (.lload_n 2, 1) := by decide +kernel
theorem d35_54 : decode (mB 35) 54 = .ok (.land, 1) := by decide +kernel
theorem d35_55 : decode (mB 35) 55 = .ok (.lstore 4, 2) := by decide +kernel
theorem d35_57 : decode (mB 35) 57 = .ok (.iinc 6 1, 3) := by decide +kernel
theorem d35_60 : decode (mB 35) 60 = .ok (.goto (-52), 3) := by decide +kernel
theorem d35_63 : decode (mB 35) 63 = .ok (.lload 4, 2) := by decide +kernel
theorem d35_65 : decode (mB 35) 65 = .ok (.lreturn, 1) := by decide +kernel
theorem v35_0 (L : Nat) (xs : Nat → Int32) : zVal L xs 35 0 (.inl (i_c (.long 1) 1)) := zS_lconst d35_0 (by decide)
theorem v35_1 (L : Nat) (xs : Nat → Int32) : zVal L xs 35 1 (.inl (i_il 1 2)) := zS_iload_n d35_1 rfl
theorem v35_2 (L : Nat) (xs : Nat → Int32) : zVal L xs 35 2 (.inl (i_sl (fun x y => x <<< (y.toInt64 &&& 63)) 3)) := zS_lshl d35_2
theorem v35_3 (L : Nat) (xs : Nat → Int32) : zVal L xs 35 3 (.inl (i_ls 4 5)) := zS_lstore d35_3
theorem v35_5 (L : Nat) (xs : Nat → Int32) : zVal L xs 35 5 (.inl (i_c (.int 0) 6)) := zS_iconst d35_5 (by decide)
theorem v35_6 (L : Nat) (xs : Nat → Int32) : zVal L xs 35 6 (.inl (i_is 6 8)) := zS_istore d35_6
theorem v35_8 (L : Nat) (xs : Nat → Int32) : zVal L xs 35 8 (.inl (i_k [false, true, false, true, false, true, false, true, true, true] (i_il 6 10))) := zS_k (zS_iload d35_8)
theorem v35_10 (L : Nat) (xs : Nat → Int32) : zVal L xs 35 10 (.inl (i_al 0 11)) := zS_aload_n d35_10 rfl
theorem v35_11 (L : Nat) (xs : Nat → Int32) : zVal L xs 35 11 (.inl (i_gf 2 2 14)) := zS_getf d35_11 (zcl2) (by decide) zi2 w338
theorem v35_14 (L : Nat) (xs : Nat → Int32) : zVal L xs 35 14 (.inl (i_f2 (fun x y => decide (y ≤ x)) 63 17)) := zS_icmp_ge d35_14 (by decide)
theorem v35_17 (L : Nat) (xs : Nat → Int32) : zVal L xs 35 17 (.inl (i_c (.long 0) 18)) := zS_lconst d35_17 (by decide)
theorem v35_18 (L : Nat) (xs : Nat → Int32) : zVal L xs 35 18 (.inl (i_ls 7 20)) := zS_lstore d35_18
theorem v35_20 (L : Nat) (xs : Nat → Int32) : zVal L xs 35 20 (.inl (i_c (.int 0) 21)) := zS_iconst d35_20 (by decide)
theorem v35_21 (L : Nat) (xs : Nat → Int32) : zVal L xs 35 21 (.inl (i_is 9 23)) := zS_istore d35_21
theorem v35_23 (L : Nat) (xs : Nat → Int32) : zVal L xs 35 23 (.inl (i_k [false, true, false, true, false, true, false, false, true, false] (i_il 9 25))) := zS_k (zS_iload d35_23)
theorem v35_25 (L : Nat) (xs : Nat → Int32) : zVal L xs 35 25 (.inl (i_al 0 26)) := zS_aload_n d35_25 rfl
theorem v35_26 (L : Nat) (xs : Nat → Int32) : zVal L xs 35 26 (.inl (i_gf 2 0 29)) := zS_getf d35_26 (zcl2) (by decide) zi2 w336
theorem v35_29 (L : Nat) (xs : Nat → Int32) : zVal L xs 35 29 (.inl (i_il 6 31)) := zS_iload d35_29
theorem v35_31 (L : Nat) (xs : Nat → Int32) : zVal L xs 35 31 (.inl (i_ga 0 32)) := zS_iald d35_31
theorem v35_32 (L : Nat) (xs : Nat → Int32) : zVal L xs 35 32 (.inl (i_f2 (fun x y => decide (y < x)) 51 35)) := zS_icmp_gt d35_32 (by decide)
theorem v35_35 (L : Nat) (xs : Nat → Int32) : zVal L xs 35 35 (.inl (i_ll 7 37)) := zS_lload d35_35
theorem v35_37 (L : Nat) (xs : Nat → Int32) : zVal L xs 35 37 (.inl (i_ll 4 39)) := zS_lload d35_37
theorem v35_39 (L : Nat) (xs : Nat → Int32) : zVal L xs 35 39 (.inl (i_il 9 41)) := zS_iload d35_39
theorem v35_41 (L : Nat) (xs : Nat → Int32) : zVal L xs 35 41 (.inl (i_sl (fun x y => x <<< (y.toInt64 &&& 63)) 42)) := zS_lshl d35_41
theorem v35_42 (L : Nat) (xs : Nat → Int32) : zVal L xs 35 42 (.inl (i_bl (fun x y => x ||| y) 43)) := zS_lor d35_42
theorem v35_43 (L : Nat) (xs : Nat → Int32) : zVal L xs 35 43 (.inl (i_ls 7 45)) := zS_lstore d35_43
theorem v35_45 (L : Nat) (xs : Nat → Int32) : zVal L xs 35 45 (.inl (i_in 9 1 48)) := zS_iinc d35_45 (by decide)
theorem v35_48 (L : Nat) (xs : Nat → Int32) : zVal L xs 35 48 (.inl (i_go 23)) := zS_goto d35_48 (by decide)
theorem v35_51 (L : Nat) (xs : Nat → Int32) : zVal L xs 35 51 (.inl (i_ll 7 53)) := zS_lload d35_51
theorem v35_53 (L : Nat) (xs : Nat → Int32) : zVal L xs 35 53 (.inl (i_ll 2 54)) := zS_lload_n d35_53 rfl
theorem v35_54 (L : Nat) (xs : Nat → Int32) : zVal L xs 35 54 (.inl (i_bl (fun x y => x &&& y) 55)) := zS_land d35_54
theorem v35_55 (L : Nat) (xs : Nat → Int32) : zVal L xs 35 55 (.inl (i_ls 4 57)) := zS_lstore d35_55
theorem v35_57 (L : Nat) (xs : Nat → Int32) : zVal L xs 35 57 (.inl (i_in 6 1 60)) := zS_iinc d35_57 (by decide)
theorem v35_60 (L : Nat) (xs : Nat → Int32) : zVal L xs 35 60 (.inl (i_go 8)) := zS_goto d35_60 (by decide)
theorem v35_63 (L : Nat) (xs : Nat → Int32) : zVal L xs 35 63 (.inl (i_ll 4 65)) := zS_lload d35_63
theorem v35_65 (L : Nat) (xs : Nat → Int32) : zVal L xs 35 65 (.inr (.inr 3)) := zr_3 d35_65 rfl
theorem vt35 (L : Nat) (xs : Nat → Int32) : zAll (fun x => zVal L xs 35 x.1 x.2) (tb35) := ⟨v35_0 L xs, v35_1 L xs, v35_2 L xs, v35_3 L xs, v35_5 L xs, v35_6 L xs, v35_8 L xs, v35_10 L xs, v35_11 L xs, v35_14 L xs, v35_17 L xs, v35_18 L xs, v35_20 L xs, v35_21 L xs, v35_23 L xs, v35_25 L xs, v35_26 L xs, v35_29 L xs, v35_31 L xs, v35_32 L xs, v35_35 L xs, v35_37 L xs, v35_39 L xs, v35_41 L xs, v35_42 L xs, v35_43 L xs, v35_45 L xs, v35_48 L xs, v35_51 L xs, v35_53 L xs, v35_54 L xs, v35_55 L xs, v35_57 L xs, v35_60 L xs, v35_63 L xs, v35_65 L xs, trivial⟩
theorem d36_0 : decode (mB 36) 0 = .ok (.aload_n 0, 1) := by decide +kernel
theorem d36_1 : decode (mB 36) 1 = .ok (.getfield 15, 3) := by decide +kernel
theorem d36_4 : decode (mB 36) 4 = .ok (.aload_n 0, 1) := by decide +kernel
theorem d36_5 : decode (mB 36) 5 = .ok (.getfield 25, 3) := by decide +kernel
theorem d36_8 : decode (mB 36) 8 = .ok (.lconst 1, 1) := by decide +kernel
theorem d36_9 : decode (mB 36) 9 = .ok (.iload_n 2, 1) := by decide +kernel
theorem d36_10 : decode (mB 36) 10 = .ok (.lshl, 1) := by decide +kernel
theorem d36_11 : decode (mB 36) 11 = .ok (.lastore, 1) := by decide +kernel
theorem d36_12 : decode (mB 36) 12 = .ok (.aload_n 0, 1) := by decide +kernel
theorem d36_13 : decode (mB 36) 13 = .ok (.getfield 25, 3) := by decide +kernel
theorem d36_16 : decode (mB 36) 16 = .ok (.iconst 1, 1) := by decide +kernel
theorem d36_17 : decode (mB 36) 17 = .ok (.isub, 1) := by decide +kernel
theorem d36_18 : decode (mB 36) 18 = .ok (.istore 6, 2) := by decide +kernel
theorem d36_20 : decode (mB 36) 20 = .ok (.iload 6, 2) := by decide +kernel
theorem d36_22 : decode (mB 36) 22 = .ok (.ifCond .le 61, 3) := by decide +kernel
theorem d36_25 : decode (mB 36) 25 = .ok (.lconst 0, 1) := by decide +kernel
theorem d36_26 : decode (mB 36) 26 = .ok (.lstore 7, 2) := by decide +kernel
theorem d36_28 : decode (mB 36) 28 = .ok (.iconst 0, 1) := by decide +kernel
theorem d36_29 : decode (mB 36) 29 = .ok (.istore 9, 2) := by decide +kernel
theorem d36_31 : decode (mB 36) 31 = .ok (.iload 9, 2) := by decide +kernel
theorem d36_33 : decode (mB 36) 33 = .ok (.aload_n 0, 1) := by decide +kernel
theorem d36_34 : decode (mB 36) 34 = .ok (.getfield 9, 3) := by decide +kernel
theorem d36_37 : decode (mB 36) 37 = .ok (.iload 6, 2) := by decide +kernel
theorem d36_39 : decode (mB 36) 39 = .ok (.iaload, 1) := by decide +kernel
theorem d36_40 : decode (mB 36) 40 = .ok (.if_icmp .gt 26, 3) := by decide +kernel
theorem d36_43 : decode (mB 36) 43 = .ok (.lload 7, 2) := by decide +kernel
theorem d36_45 : decode (mB 36) 45 = .ok (.aload_n 0, 1) := by decide +kernel
theorem d36_46 : decode (mB 36) 46 = .ok (.getfield 15, 3) := by decide +kernel
theorem d36_49 : decode (mB 36) 49 = .ok (.iload 6, 2) := by decide +kernel
theorem d36_51 : decode (mB 36) 51 = .ok (.iconst 1, 1) := by decide +kernel
theorem d36_52 : decode (mB 36) 52 = .ok (.iadd, 1) := by decide +kernel
theorem d36_53 : decode (mB 36) 53 = .ok (.laload, 1) := by decide +kernel
theorem d36_54 : decode (mB 36) 54 = .ok (.iload 9, 2) := by decide +kernel
theorem d36_56 : decode (mB 36) 56 = .ok (.lushr, 1) := by decide +kernel
theorem d36_57 : decode (mB 36) 57 = .ok (.lor, 1) := by decide +kernel
theorem d36_58 : decode (mB 36) 58 = .ok (.lstore 7, 2) := by decide +kernel
theorem d36_60 : decode (mB 36) 60 = .ok (.iinc 9 1, 3) := by decide +kernel
theorem d36_63 : decode (mB 36) 63 = .ok (.goto (-32), 3) := by decide +kernel
theorem d36_66 : decode (mB 36) 66 = .ok (.aload_n 0, 1) := by decide +kernel
theorem d36_67 : decode (mB 36) 67 = .ok (.getfield 15, 3) := by decide +kernel
theorem d36_70 : decode (mB 36) 70 = .ok (.iload 6, 2) := by decide +kernel
theorem d36_72 : decode (mB 36) 72 = .ok (.lload 7, 2) := by decide +kernel
theorem d36_74 : decode (mB 36) 74 = .ok (.lload_n 3, 1) := by decide +kernel
theorem d36_75 : decode (mB 36) 75 = .ok (.land, 1) := by decide +kernel
theorem d36_76 : decode (mB 36) 76 = .ok (.lastore, 1) := by decide +kernel
theorem d36_77 : decode (mB 36) 77 = .ok (.iinc 6 (-1), 3) := by decide +kernel
theorem d36_80 : decode (mB 36) 80 = .ok (.goto (-60), 3) := by decide +kernel
theorem d36_83 : decode (mB 36) 83 = .ok (.aload 5, 2) := by decide +kernel
theorem d36_85 : decode (mB 36) 85 = .ok (.iconst 0, 1) := by decide +kernel
theorem d36_86 : decode (mB 36) 86 = .ok (.invokestatic 31, 3) := by decide +kernel
theorem d36_89 : decode (mB 36) 89 = .ok (.iload_n 1, 1) := by decide +kernel
theorem d36_90 : decode (mB 36) 90 = .ok (.istore 6, 2) := by decide +kernel
theorem d36_92 : decode (mB 36) 92 = .ok (.iconst 0, 1) := by decide +kernel
theorem d36_93 : decode (mB 36) 93 = .ok (.istore 7, 2) := by decide +kernel
theorem d36_95 : decode (mB 36) 95 = .ok (.iload 7, 2) := by decide +kernel
theorem d36_97 : decode (mB 36) 97 = .ok (.aload_n 0, 1) := by decide +kernel
theorem d36_98 : decode (mB 36) 98 = .ok (.getfield 25, 3) := by decide +kernel
theorem d36_101 : decode (mB 36) 101 = .ok (.if_icmp .ge 32, 3) := by decide +kernel
theorem d36_104 : decode (mB 36) 104 = .ok (.aload 5, 2) := by decide +kernel
theorem d36_106 : decode (mB 36) 106 = .ok (.iload 7, 2) := by decide +kernel
theorem d36_108 : decode (mB 36) 108 = .ok (.aload_n 0, 1) := by decide +kernel
theorem d36_109 : decode (mB 36) 109 = .ok (.iload 7, 2) := by decide +kernel
theorem d36_111 : decode (mB 36) 111 = .ok (.iload 6, 2) := by decide +kernel
theorem d36_113 : decode (mB 36) 113 = .ok (.invokevirtual 37, 3) := by decide +kernel
theorem d36_116 : decode (mB 36) 116 = .ok (.iastore, 1) := by decide +kernel
theorem d36_117 : decode (mB 36) 117 = .ok (.iload 6, 2) := by decide +kernel
theorem d36_119 : decode (mB 36) 119 = .ok (.aload 5, 2) := by decide +kernel
theorem d36_121 : decode (mB 36) 121 = .ok (.iload 7, 2) := by decide +kernel
theorem d36_123 : decode (mB 36) 123 = .ok (.iaload, 1) := by decide +kernel
theorem d36_124 : decode (mB 36) 124 = .ok (.iadd, 1) := by decide +kernel
theorem d36_125 : decode (mB 36) 125 = .ok (.istore 6, 2) := by decide +kernel
theorem d36_127 : decode (mB 36) 127 = .ok (.iinc 7 1, 3) := by decide +kernel
theorem d36_130 : decode (mB 36) 130 = .ok (.goto (-35), 3) := by decide +kernel
theorem d36_133 : decode (mB 36) 133 = .ok (.return_, 1) := by decide +kernel
theorem v36_0 (L : Nat) (xs : Nat → Int32) : zVal L xs 36 0 (.inl (i_al 0 1)) := zS_aload_n d36_0 rfl
theorem v36_1 (L : Nat) (xs : Nat → Int32) : zVal L xs 36 1 (.inl (i_gf 2 1 4)) := zS_getf d36_1 (zcl2) (by decide) zi2 w337
theorem v36_4 (L : Nat) (xs : Nat → Int32) : zVal L xs 36 4 (.inl (i_al 0 5)) := zS_aload_n d36_4 rfl
theorem v36_5 (L : Nat) (xs : Nat → Int32) : zVal L xs 36 5 (.inl (i_gf 2 2 8)) := zS_getf d36_5 (zcl2) (by decide) zi2 w338
theorem v36_8 (L : Nat) (xs : Nat → Int32) : zVal L xs 36 8 (.inl (i_c (.long 1) 9)) := zS_lconst d36_8 (by decide)
theorem v36_9 (L : Nat) (xs : Nat → Int32) : zVal L xs 36 9 (.inl (i_il 2 10)) := zS_iload_n d36_9 rfl
theorem v36_10 (L : Nat) (xs : Nat → Int32) : zVal L xs 36 10 (.inl (i_sl (fun x y => x <<< (y.toInt64 &&& 63)) 11)) := zS_lshl d36_10
theorem v36_11 (L : Nat) (xs : Nat → Int32) : zVal L xs 36 11 (.inl (i_pl 12)) := zS_last d36_11
theorem v36_12 (L : Nat) (xs : Nat → Int32) : zVal L xs 36 12 (.inl (i_al 0 13)) := zS_aload_n d36_12 rfl
theorem v36_13 (L : Nat) (xs : Nat → Int32) : zVal L xs 36 13 (.inl (i_gf 2 2 16)) := zS_getf d36_13 (zcl2) (by decide) zi2 w338
theorem v36_16 (L : Nat) (xs : Nat → Int32) : zVal L xs 36 16 (.inl (i_c (.int 1) 17)) := zS_iconst d36_16 (by decide)
theorem v36_17 (L : Nat) (xs : Nat → Int32) : zVal L xs 36 17 (.inl (i_bi (fun x y => x - y) 18)) := zS_isub d36_17
theorem v36_18 (L : Nat) (xs : Nat → Int32) : zVal L xs 36 18 (.inl (i_is 6 20)) := zS_istore d36_18
theorem v36_20 (L : Nat) (xs : Nat → Int32) : zVal L xs 36 20 (.inl (i_k [false, false, true, false, true, false, false, true, true, true] (i_il 6 22))) := zS_k (zS_iload d36_20)
theorem v36_22 (L : Nat) (xs : Nat → Int32) : zVal L xs 36 22 (.inl (i_f1 (fun x => decide (x ≤ 0)) 83 25)) := zS_if_le d36_22 (by decide)
theorem v36_25 (L : Nat) (xs : Nat → Int32) : zVal L xs 36 25 (.inl (i_c (.long 0) 26)) := zS_lconst d36_25 (by decide)
theorem v36_26 (L : Nat) (xs : Nat → Int32) : zVal L xs 36 26 (.inl (i_ls 7 28)) := zS_lstore d36_26
theorem v36_28 (L : Nat) (xs : Nat → Int32) : zVal L xs 36 28 (.inl (i_c (.int 0) 29)) := zS_iconst d36_28 (by decide)
theorem v36_29 (L : Nat) (xs : Nat → Int32) : zVal L xs 36 29 (.inl (i_is 9 31)) := zS_istore d36_29
theorem v36_31 (L : Nat) (xs : Nat → Int32) : zVal L xs 36 31 (.inl (i_k [false, false, true, false, true, false, false, false, true, false] (i_il 9 33))) := zS_k (zS_iload d36_31)
theorem v36_33 (L : Nat) (xs : Nat → Int32) : zVal L xs 36 33 (.inl (i_al 0 34)) := zS_aload_n d36_33 rfl
theorem v36_34 (L : Nat) (xs : Nat → Int32) : zVal L xs 36 34 (.inl (i_gf 2 0 37)) := zS_getf d36_34 (zcl2) (by decide) zi2 w336
theorem v36_37 (L : Nat) (xs : Nat → Int32) : zVal L xs 36 37 (.inl (i_il 6 39)) := zS_iload d36_37
theorem v36_39 (L : Nat) (xs : Nat → Int32) : zVal L xs 36 39 (.inl (i_ga 0 40)) := zS_iald d36_39
theorem v36_40 (L : Nat) (xs : Nat → Int32) : zVal L xs 36 40 (.inl (i_f2 (fun x y => decide (y < x)) 66 43)) := zS_icmp_gt d36_40 (by decide)
theorem v36_43 (L : Nat) (xs : Nat → Int32) : zVal L xs 36 43 (.inl (i_ll 7 45)) := zS_lload d36_43
theorem v36_45 (L : Nat) (xs : Nat → Int32) : zVal L xs 36 45 (.inl (i_al 0 46)) := zS_aload_n d36_45 rfl
theorem v36_46 (L : Nat) (xs : Nat → Int32) : zVal L xs 36 46 (.inl (i_gf 2 1 49)) := zS_getf d36_46 (zcl2) (by decide) zi2 w337
theorem v36_49 (L : Nat) (xs : Nat → Int32) : zVal L xs 36 49 (.inl (i_il 6 51)) := zS_iload d36_49
theorem v36_51 (L : Nat) (xs : Nat → Int32) : zVal L xs 36 51 (.inl (i_c (.int 1) 52)) := zS_iconst d36_51 (by decide)
theorem v36_52 (L : Nat) (xs : Nat → Int32) : zVal L xs 36 52 (.inl (i_bi (fun x y => x + y) 53)) := zS_iadd d36_52
theorem v36_53 (L : Nat) (xs : Nat → Int32) : zVal L xs 36 53 (.inl (i_gl 54)) := zS_lald d36_53
theorem v36_54 (L : Nat) (xs : Nat → Int32) : zVal L xs 36 54 (.inl (i_il 9 56)) := zS_iload d36_54
theorem v36_56 (L : Nat) (xs : Nat → Int32) : zVal L xs 36 56 (.inl (i_sl (fun x y => (x.toUInt64 >>> (y.toInt64.toUInt64 &&& Int64.toUInt64 63)).toInt64) 57)) := zS_lushr d36_56
theorem v36_57 (L : Nat) (xs : Nat → Int32) : zVal L xs 36 57 (.inl (i_bl (fun x y => x ||| y) 58)) := zS_lor d36_57
theorem v36_58 (L : Nat) (xs : Nat → Int32) : zVal L xs 36 58 (.inl (i_ls 7 60)) := zS_lstore d36_58
theorem v36_60 (L : Nat) (xs : Nat → Int32) : zVal L xs 36 60 (.inl (i_in 9 1 63)) := zS_iinc d36_60 (by decide)
theorem v36_63 (L : Nat) (xs : Nat → Int32) : zVal L xs 36 63 (.inl (i_go 31)) := zS_goto d36_63 (by decide)
theorem v36_66 (L : Nat) (xs : Nat → Int32) : zVal L xs 36 66 (.inl (i_al 0 67)) := zS_aload_n d36_66 rfl
theorem v36_67 (L : Nat) (xs : Nat → Int32) : zVal L xs 36 67 (.inl (i_gf 2 1 70)) := zS_getf d36_67 (zcl2) (by decide) zi2 w337
theorem v36_70 (L : Nat) (xs : Nat → Int32) : zVal L xs 36 70 (.inl (i_il 6 72)) := zS_iload d36_70
theorem v36_72 (L : Nat) (xs : Nat → Int32) : zVal L xs 36 72 (.inl (i_ll 7 74)) := zS_lload d36_72
theorem v36_74 (L : Nat) (xs : Nat → Int32) : zVal L xs 36 74 (.inl (i_ll 3 75)) := zS_lload_n d36_74 rfl
theorem v36_75 (L : Nat) (xs : Nat → Int32) : zVal L xs 36 75 (.inl (i_bl (fun x y => x &&& y) 76)) := zS_land d36_75
theorem v36_76 (L : Nat) (xs : Nat → Int32) : zVal L xs 36 76 (.inl (i_pl 77)) := zS_last d36_76
theorem v36_77 (L : Nat) (xs : Nat → Int32) : zVal L xs 36 77 (.inl (i_in 6 (-1) 80)) := zS_iinc d36_77 (by decide)
theorem v36_80 (L : Nat) (xs : Nat → Int32) : zVal L xs 36 80 (.inl (i_go 20)) := zS_goto d36_80 (by decide)
theorem v36_83 (L : Nat) (xs : Nat → Int32) : zVal L xs 36 83 (.inl (i_al 5 85)) := zS_aload d36_83
theorem v36_85 (L : Nat) (xs : Nat → Int32) : zVal L xs 36 85 (.inl (i_c (.int 0) 86)) := zS_iconst d36_85 (by decide)
theorem v36_86 (L : Nat) (xs : Nat → Int32) : zVal L xs 36 86 (.inr (.inl (149, 2, 0))) := ⟨by decide +kernel, by decide +kernel, zc_static d36_86 w399 w661 w398 w84 ⟨by decide +kernel, by decide +kernel, by decide +kernel⟩ (by decide) (by decide)⟩
theorem v36_89 (L : Nat) (xs : Nat → Int32) : zVal L xs 36 89 (.inl (i_il 1 90)) := zS_iload_n d36_89 rfl
theorem v36_90 (L : Nat) (xs : Nat → Int32) : zVal L xs 36 90 (.inl (i_is 6 92)) := zS_istore d36_90
theorem v36_92 (L : Nat) (xs : Nat → Int32) : zVal L xs 36 92 (.inl (i_c (.int 0) 93)) := zS_iconst d36_92 (by decide)
theorem v36_93 (L : Nat) (xs : Nat → Int32) : zVal L xs 36 93 (.inl (i_is 7 95)) := zS_istore d36_93
theorem v36_95 (L : Nat) (xs : Nat → Int32) : zVal L xs 36 95 (.inl (i_k [false, true, true, true, true, false, false, false, true, true] (i_il 7 97))) := zS_k (zS_iload d36_95)
theorem v36_97 (L : Nat) (xs : Nat → Int32) : zVal L xs 36 97 (.inl (i_al 0 98)) := zS_aload_n d36_97 rfl
theorem v36_98 (L : Nat) (xs : Nat → Int32) : zVal L xs 36 98 (.inl (i_gf 2 2 101)) := zS_getf d36_98 (zcl2) (by decide) zi2 w338
theorem v36_101 (L : Nat) (xs : Nat → Int32) : zVal L xs 36 101 (.inl (i_f2 (fun x y => decide (y ≤ x)) 133 104)) := zS_icmp_ge d36_101 (by decide)
theorem v36_104 (L : Nat) (xs : Nat → Int32) : zVal L xs 36 104 (.inl (i_al 5 106)) := zS_aload d36_104
theorem v36_106 (L : Nat) (xs : Nat → Int32) : zVal L xs 36 106 (.inl (i_il 7 108)) := zS_iload d36_106
theorem v36_108 (L : Nat) (xs : Nat → Int32) : zVal L xs 36 108 (.inl (i_al 0 109)) := zS_aload_n d36_108 rfl
theorem v36_109 (L : Nat) (xs : Nat → Int32) : zVal L xs 36 109 (.inl (i_il 7 111)) := zS_iload d36_109
theorem v36_111 (L : Nat) (xs : Nat → Int32) : zVal L xs 36 111 (.inl (i_il 6 113)) := zS_iload d36_111
theorem v36_113 (L : Nat) (xs : Nat → Int32) : zVal L xs 36 113 (.inr (.inl (37, 3, 3))) := ⟨by decide +kernel, by decide +kernel, zc_virt d36_113 zcl2 w665 w662 w664 w22 w81 ⟨by decide +kernel, by decide +kernel, by decide +kernel⟩ (by decide) (by decide)⟩
theorem v36_116 (L : Nat) (xs : Nat → Int32) : zVal L xs 36 116 (.inl (i_pa 0 (fun x => x) 117)) := zS_iast d36_116
theorem v36_117 (L : Nat) (xs : Nat → Int32) : zVal L xs 36 117 (.inl (i_il 6 119)) := zS_iload d36_117
theorem v36_119 (L : Nat) (xs : Nat → Int32) : zVal L xs 36 119 (.inl (i_al 5 121)) := zS_aload d36_119
theorem v36_121 (L : Nat) (xs : Nat → Int32) : zVal L xs 36 121 (.inl (i_il 7 123)) := zS_iload d36_121
theorem v36_123 (L : Nat) (xs : Nat → Int32) : zVal L xs 36 123 (.inl (i_ga 0 124)) := zS_iald d36_123
theorem v36_124 (L : Nat) (xs : Nat → Int32) : zVal L xs 36 124 (.inl (i_bi (fun x y => x + y) 125)) := zS_iadd d36_124
theorem v36_125 (L : Nat) (xs : Nat → Int32) : zVal L xs 36 125 (.inl (i_is 6 127)) := zS_istore d36_125
theorem v36_127 (L : Nat) (xs : Nat → Int32) : zVal L xs 36 127 (.inl (i_in 7 1 130)) := zS_iinc d36_127 (by decide)
theorem v36_130 (L : Nat) (xs : Nat → Int32) : zVal L xs 36 130 (.inl (i_go 95)) := zS_goto d36_130 (by decide)
theorem v36_133 (L : Nat) (xs : Nat → Int32) : zVal L xs 36 133 (.inr (.inr 0)) := zr_0 d36_133 rfl
theorem vt36 (L : Nat) (xs : Nat → Int32) : zAll (fun x => zVal L xs 36 x.1 x.2) (tb36) := ⟨v36_0 L xs, v36_1 L xs, v36_4 L xs, v36_5 L xs, v36_8 L xs, v36_9 L xs, v36_10 L xs, v36_11 L xs, v36_12 L xs, v36_13 L xs, v36_16 L xs, v36_17 L xs, v36_18 L xs, v36_20 L xs, v36_22 L xs, v36_25 L xs, v36_26 L xs, v36_28 L xs, v36_29 L xs, v36_31 L xs, v36_33 L xs, v36_34 L xs, v36_37 L xs, v36_39 L xs, v36_40 L xs, v36_43 L xs, v36_45 L xs, v36_46 L xs, v36_49 L xs, v36_51 L xs, v36_52 L xs, v36_53 L xs, v36_54 L xs, v36_56 L xs, v36_57 L xs, v36_58 L xs, v36_60 L xs, v36_63 L xs, v36_66 L xs, v36_67 L xs, v36_70 L xs, v36_72 L xs, v36_74 L xs, v36_75 L xs, v36_76 L xs, v36_77 L xs, v36_80 L xs, v36_83 L xs, v36_85 L xs, v36_86 L xs, v36_89 L xs, v36_90 L xs, v36_92 L xs, v36_93 L xs, v36_95 L xs, v36_97 L xs, v36_98 L xs, v36_101 L xs, v36_104 L xs, v36_106 L xs, v36_108 L xs, v36_109 L xs, v36_111 L xs, v36_113 L xs, v36_116 L xs, v36_117 L xs, v36_119 L xs, v36_121 L xs, v36_123 L xs, v36_124 L xs, v36_125 L xs, v36_127 L xs, v36_130 L xs, v36_133 L xs, trivial⟩
theorem d37_0 : decode (mB 37) 0 = .ok (.aload_n 0, 1) := by decide +kernel
theorem d37_1 : decode (mB 37) 1 = .ok (.getfield 9, 3) := by decide +kernel
theorem d37_4 : decode (mB 37) 4 = .ok (.iload_n 1, 1) := by decide +kernel
theorem d37_5 : decode (mB 37) 5 = .ok (.iaload, 1) := by decide +kernel
theorem d37_6 : decode (mB 37) 6 = .ok (.istore_n 3, 1) := by decide +kernel
theorem d37_7 : decode (mB 37) 7 = .ok (.iload_n 3, 1) := by decide +kernel
theorem d37_8 : decode (mB 37) 8 = .ok (.ifCond .le 28, 3) := by decide +kernel
theorem d37_11 : decode (mB 37) 11 = .ok (.aload_n 0, 1) := by decide +kernel
theorem d37_12 : decode (mB 37) 12 = .ok (.getfield 15, 3) := by decide +kernel
theorem d37_15 : decode (mB 37) 15 = .ok (.iload_n 1, 1) := by decide +kernel
theorem d37_16 : decode (mB 37) 16 = .ok (.iconst 1, 1) := by decide +kernel
theorem d37_17 : decode (mB 37) 17 = .ok (.iadd, 1) := by decide +kernel
theorem d37_18 : decode (mB 37) 18 = .ok (.laload, 1) := by decide +kernel
theorem d37_19 : decode (mB 37) 19 = .ok (.iload_n 2, 1) := by decide +kernel
theorem d37_20 : decode (mB 37) 20 = .ok (.iload_n 3, 1) := by decide +kernel
theorem d37_21 : decode (mB 37) 21 = .ok (.iadd, 1) := by decide +kernel
theorem d37_22 : decode (mB 37) 22 = .ok (.invokestatic 41, 3) := by decide +kernel
theorem d37_25 : decode (mB 37) 25 = .ok (.ifCond .eq 5, 3) := by decide +kernel
theorem d37_28 : decode (mB 37) 28 = .ok (.iload_n 3, 1) := by decide +kernel
theorem d37_29 : decode (mB 37) 29 = .ok (.ireturn, 1) := by decide +kernel
theorem d37_30 : decode (mB 37) 30 = .ok (.iinc 3 (-1), 3) := by decide +kernel
theorem d37_33 : decode (mB 37) 33 = .ok (.goto (-26), 3) := by decide +kernel
theorem d37_36 : decode (mB 37) 36 = .ok (.iconst 0, 1) := by decide +kernel
theorem d37_37 : decode (mB 37) 37 = .ok (.ireturn, 1) := by decide +kernel
theorem v37_0 (L : Nat) (xs : Nat → Int32) : zVal L xs 37 0 (.inl (i_al 0 1)) := zS_aload_n d37_0 rfl
theorem v37_1 (L : Nat) (xs : Nat → Int32) : zVal L xs 37 1 (.inl (i_gf 2 0 4)) := zS_getf d37_1 (zcl2) (by decide) zi2 w336
theorem v37_4 (L : Nat) (xs : Nat → Int32) : zVal L xs 37 4 (.inl (i_il 1 5)) := zS_iload_n d37_4 rfl
theorem v37_5 (L : Nat) (xs : Nat → Int32) : zVal L xs 37 5 (.inl (i_ga 0 6)) := zS_iald d37_5
theorem v37_6 (L : Nat) (xs : Nat → Int32) : zVal L xs 37 6 (.inl (i_is 3 7)) := zS_istore_n d37_6 rfl
theorem v37_7 (L : Nat) (xs : Nat → Int32) : zVal L xs 37 7 (.inl (i_k [false, false, false, false] (i_il 3 8))) := zS_k (zS_iload_n d37_7 rfl)
theorem v37_8 (L : Nat) (xs : Nat → Int32) : zVal L xs 37 8 (.inl (i_f1 (fun x => decide (x ≤ 0)) 36 11)) := zS_if_le d37_8 (by decide)
theorem v37_11 (L : Nat) (xs : Nat → Int32) : zVal L xs 37 11 (.inl (i_al 0 12)) := zS_aload_n d37_11 rfl
theorem v37_12 (L : Nat) (xs : Nat → Int32) : zVal L xs 37 12 (.inl (i_gf 2 1 15)) := zS_getf d37_12 (zcl2) (by decide) zi2 w337
theorem v37_15 (L : Nat) (xs : Nat → Int32) : zVal L xs 37 15 (.inl (i_il 1 16)) := zS_iload_n d37_15 rfl
theorem v37_16 (L : Nat) (xs : Nat → Int32) : zVal L xs 37 16 (.inl (i_c (.int 1) 17)) := zS_iconst d37_16 (by decide)
theorem v37_17 (L : Nat) (xs : Nat → Int32) : zVal L xs 37 17 (.inl (i_bi (fun x y => x + y) 18)) := zS_iadd d37_17
theorem v37_18 (L : Nat) (xs : Nat → Int32) : zVal L xs 37 18 (.inl (i_gl 19)) := zS_lald d37_18
theorem v37_19 (L : Nat) (xs : Nat → Int32) : zVal L xs 37 19 (.inl (i_il 2 20)) := zS_iload_n d37_19 rfl
theorem v37_20 (L : Nat) (xs : Nat → Int32) : zVal L xs 37 20 (.inl (i_il 3 21)) := zS_iload_n d37_20 rfl
theorem v37_21 (L : Nat) (xs : Nat → Int32) : zVal L xs 37 21 (.inl (i_bi (fun x y => x + y) 22)) := zS_iadd d37_21
theorem v37_22 (L : Nat) (xs : Nat → Int32) : zVal L xs 37 22 (.inr (.inl (22, 2, 0))) := ⟨by decide +kernel, by decide +kernel, zc_staticN (host := "EditionGrid") d37_22 w578 (by decide +kernel) w577 w73 ⟨by decide +kernel, by decide +kernel, by decide +kernel⟩ (by decide) (by decide)⟩
theorem v37_25 (L : Nat) (xs : Nat → Int32) : zVal L xs 37 25 (.inl (i_f1 (fun x => decide (x = 0)) 30 28)) := zS_if_eq d37_25 (by decide)
theorem v37_28 (L : Nat) (xs : Nat → Int32) : zVal L xs 37 28 (.inl (i_il 3 29)) := zS_iload_n d37_28 rfl
theorem v37_29 (L : Nat) (xs : Nat → Int32) : zVal L xs 37 29 (.inr (.inr 1)) := zr_1 d37_29 rfl
theorem v37_30 (L : Nat) (xs : Nat → Int32) : zVal L xs 37 30 (.inl (i_in 3 (-1) 33)) := zS_iinc d37_30 (by decide)
theorem v37_33 (L : Nat) (xs : Nat → Int32) : zVal L xs 37 33 (.inl (i_go 7)) := zS_goto d37_33 (by decide)
theorem v37_36 (L : Nat) (xs : Nat → Int32) : zVal L xs 37 36 (.inl (i_c (.int 0) 37)) := zS_iconst d37_36 (by decide)
theorem v37_37 (L : Nat) (xs : Nat → Int32) : zVal L xs 37 37 (.inr (.inr 1)) := zr_1 d37_37 rfl
theorem vt37 (L : Nat) (xs : Nat → Int32) : zAll (fun x => zVal L xs 37 x.1 x.2) (tb37) := ⟨v37_0 L xs, v37_1 L xs, v37_4 L xs, v37_5 L xs, v37_6 L xs, v37_7 L xs, v37_8 L xs, v37_11 L xs, v37_12 L xs, v37_15 L xs, v37_16 L xs, v37_17 L xs, v37_18 L xs, v37_19 L xs, v37_20 L xs, v37_21 L xs, v37_22 L xs, v37_25 L xs, v37_28 L xs, v37_29 L xs, v37_30 L xs, v37_33 L xs, v37_36 L xs, v37_37 L xs, trivial⟩
theorem d38_0 : decode (mB 38) 0 = .ok (.aload_n 0, 1) := by decide +kernel
theorem d38_1 : decode (mB 38) 1 = .ok (.invokespecial 3, 3) := by decide +kernel
theorem d38_4 : decode (mB 38) 4 = .ok (.aload_n 0, 1) := by decide +kernel
theorem d38_5 : decode (mB 38) 5 = .ok (.sipush 480, 3) := by decide +kernel
theorem d38_8 : decode (mB 38) 8 = .ok (.newarray .char, 2) := by decide +kernel
theorem d38_10 : decode (mB 38) 10 = .ok (.putfield 9, 3) := by decide +kernel
theorem d38_13 : decode (mB 38) 13 = .ok (.aload_n 0, 1) := by decide +kernel
theorem d38_14 : decode (mB 38) 14 = .ok (.bipush 26, 2) := by decide +kernel
theorem d38_16 : decode (mB 38) 16 = .ok (.newarray .int, 2) := by decide +kernel
theorem d38_18 : decode (mB 38) 18 = .ok (.putfield 15, 3) := by decide +kernel
theorem d38_21 : decode (mB 38) 21 = .ok (.aload_n 0, 1) := by decide +kernel
theorem d38_22 : decode (mB 38) 22 = .ok (.iload_n 1, 1) := by decide +kernel
theorem d38_23 : decode (mB 38) 23 = .ok (.putfield 19, 3) := by decide +kernel
theorem d38_26 : decode (mB 38) 26 = .ok (.return_, 1) := by decide +kernel
theorem v38_0 (L : Nat) (xs : Nat → Int32) : zVal L xs 38 0 (.inl (i_al 0 1)) := zS_aload_n d38_0 rfl
theorem v38_1 (L : Nat) (xs : Nat → Int32) : zVal L xs 38 1 (.inl (i_oi 4)) := zS_oinit d38_1 w386 w93 w94 (by decide)
theorem v38_4 (L : Nat) (xs : Nat → Int32) : zVal L xs 38 4 (.inl (i_al 0 5)) := zS_aload_n d38_4 rfl
theorem v38_5 (L : Nat) (xs : Nat → Int32) : zVal L xs 38 5 (.inl (i_c (.int 480) 8)) := zS_sipush d38_5 (by decide)
theorem v38_8 (L : Nat) (xs : Nat → Int32) : zVal L xs 38 8 (.inl (i_na (2, 506) 2 (.inl (fun _ => 0)) 10)) := zS_newa (ty := .char) d38_8 w151 rfl (by decide) (fun _ => rfl) (fun _ => rfl) (fun _ _ => rfl) (fun _ _ h => h)
theorem v38_10 (L : Nat) (xs : Nat → Int32) : zVal L xs 38 10 (.inl (i_pf 3 1 okR 13)) := zS_putfF (ty := .array .char) d38_10 (zcl3) (by decide) zi3 w388 zy3 zn3 (by decide +kernel) (by decide +kernel) (by decide +kernel) (by decide +kernel) (okA_ok (.char))
theorem v38_13 (L : Nat) (xs : Nat → Int32) : zVal L xs 38 13 (.inl (i_al 0 14)) := zS_aload_n d38_13 rfl
theorem v38_14 (L : Nat) (xs : Nat → Int32) : zVal L xs 38 14 (.inl (i_c (.int 26) 16)) := zS_bipush d38_14 (by decide)
theorem v38_16 (L : Nat) (xs : Nat → Int32) : zVal L xs 38 16 (.inl (i_na (2, 506) 0 (.inl (fun _ => 0)) 18)) := zS_newa (ty := .int) d38_16 w150 rfl (by decide) (fun _ => rfl) (fun _ => rfl) (fun _ _ => rfl) (fun _ _ h => h)
theorem v38_18 (L : Nat) (xs : Nat → Int32) : zVal L xs 38 18 (.inl (i_pf 3 2 okR 21)) := zS_putfF (ty := .array .int) d38_18 (zcl3) (by decide) zi3 w389 zy3 zn3 (by decide +kernel) (by decide +kernel) (by decide +kernel) (by decide +kernel) (okA_ok (.int))
theorem v38_21 (L : Nat) (xs : Nat → Int32) : zVal L xs 38 21 (.inl (i_al 0 22)) := zS_aload_n d38_21 rfl
theorem v38_22 (L : Nat) (xs : Nat → Int32) : zVal L xs 38 22 (.inl (i_il 1 23)) := zS_iload_n d38_22 rfl
theorem v38_23 (L : Nat) (xs : Nat → Int32) : zVal L xs 38 23 (.inl (i_pf 3 0 okI 26)) := zS_putfF (ty := .int) d38_23 (zcl3) (by decide) zi3 w387 zy3 zn3 (by decide +kernel) (by decide +kernel) (by decide +kernel) (by decide +kernel) okI_ok
theorem v38_26 (L : Nat) (xs : Nat → Int32) : zVal L xs 38 26 (.inr (.inr 0)) := zr_0 d38_26 rfl
theorem vt38 (L : Nat) (xs : Nat → Int32) : zAll (fun x => zVal L xs 38 x.1 x.2) (tb38) := ⟨v38_0 L xs, v38_1 L xs, v38_4 L xs, v38_5 L xs, v38_8 L xs, v38_10 L xs, v38_13 L xs, v38_14 L xs, v38_16 L xs, v38_18 L xs, v38_21 L xs, v38_22 L xs, v38_23 L xs, v38_26 L xs, trivial⟩
theorem d39_0 : decode (mB 39) 0 = .ok (.aload_n 1, 1) := by decide +kernel
theorem d39_1 : decode (mB 39) 1 = .ok (.iconst 0, 1) := by decide +kernel
theorem d39_2 : decode (mB 39) 2 = .ok (.aload_n 0, 1) := by decide +kernel
theorem d39_3 : decode (mB 39) 3 = .ok (.getfield 9, 3) := by decide +kernel
theorem d39_6 : decode (mB 39) 6 = .ok (.iconst 0, 1) := by decide +kernel
theorem d39_7 : decode (mB 39) 7 = .ok (.sipush 480, 3) := by decide +kernel
theorem d39_10 : decode (mB 39) 10 = .ok (.invokestatic 23, 3) := by decide +kernel
theorem d39_13 : decode (mB 39) 13 = .ok (.aload_n 2, 1) := by decide +kernel
theorem d39_14 : decode (mB 39) 14 = .ok (.iconst 0, 1) := by decide +kernel
theorem d39_15 : decode (mB 39) 15 = .ok (.aload_n 0, 1) := by decide +kernel
theorem d39_16 : decode (mB 39) 16 = .ok (.getfield 15, 3) := by decide +kernel
theorem d39_19 : decode (mB 39) 19 = .ok (.iconst 0, 1) := by decide +kernel
theorem d39_20 : decode (mB 39) 20 = .ok (.bipush 26, 2) := by decide +kernel
theorem d39_22 : decode (mB 39) 22 = .ok (.invokestatic 23, 3) := by decide +kernel
theorem d39_25 : decode (mB 39) 25 = .ok (.return_, 1) := by decide +kernel
theorem v39_0 (L : Nat) (xs : Nat → Int32) : zVal L xs 39 0 (.inl (i_al 1 1)) := zS_aload_n d39_0 rfl
theorem v39_1 (L : Nat) (xs : Nat → Int32) : zVal L xs 39 1 (.inl (i_c (.int 0) 2)) := zS_iconst d39_1 (by decide)
theorem v39_2 (L : Nat) (xs : Nat → Int32) : zVal L xs 39 2 (.inl (i_al 0 3)) := zS_aload_n d39_2 rfl
theorem v39_3 (L : Nat) (xs : Nat → Int32) : zVal L xs 39 3 (.inl (i_gf 3 1 6)) := zS_getf d39_3 (zcl3) (by decide) zi3 w388
theorem v39_6 (L : Nat) (xs : Nat → Int32) : zVal L xs 39 6 (.inl (i_c (.int 0) 7)) := zS_iconst d39_6 (by decide)
theorem v39_7 (L : Nat) (xs : Nat → Int32) : zVal L xs 39 7 (.inl (i_c (.int 480) 10)) := zS_sipush d39_7 (by decide)
theorem v39_10 (L : Nat) (xs : Nat → Int32) : zVal L xs 39 10 (.inl (i_cp 13)) := zS_acopy d39_10 w552 w503 w502 w86 (by decide)
theorem v39_13 (L : Nat) (xs : Nat → Int32) : zVal L xs 39 13 (.inl (i_al 2 14)) := zS_aload_n d39_13 rfl
theorem v39_14 (L : Nat) (xs : Nat → Int32) : zVal L xs 39 14 (.inl (i_c (.int 0) 15)) := zS_iconst d39_14 (by decide)
theorem v39_15 (L : Nat) (xs : Nat → Int32) : zVal L xs 39 15 (.inl (i_al 0 16)) := zS_aload_n d39_15 rfl
theorem v39_16 (L : Nat) (xs : Nat → Int32) : zVal L xs 39 16 (.inl (i_gf 3 2 19)) := zS_getf d39_16 (zcl3) (by decide) zi3 w389
theorem v39_19 (L : Nat) (xs : Nat → Int32) : zVal L xs 39 19 (.inl (i_c (.int 0) 20)) := zS_iconst d39_19 (by decide)
theorem v39_20 (L : Nat) (xs : Nat → Int32) : zVal L xs 39 20 (.inl (i_c (.int 26) 22)) := zS_bipush d39_20 (by decide)
theorem v39_22 (L : Nat) (xs : Nat → Int32) : zVal L xs 39 22 (.inl (i_cp 25)) := zS_acopy d39_22 w552 w503 w502 w86 (by decide)
theorem v39_25 (L : Nat) (xs : Nat → Int32) : zVal L xs 39 25 (.inr (.inr 0)) := zr_0 d39_25 rfl
theorem vt39 (L : Nat) (xs : Nat → Int32) : zAll (fun x => zVal L xs 39 x.1 x.2) (tb39) := ⟨v39_0 L xs, v39_1 L xs, v39_2 L xs, v39_3 L xs, v39_6 L xs, v39_7 L xs, v39_10 L xs, v39_13 L xs, v39_14 L xs, v39_15 L xs, v39_16 L xs, v39_19 L xs, v39_20 L xs, v39_22 L xs, v39_25 L xs, trivial⟩
theorem d40_0 : decode (mB 40) 0 = .ok (.iload_n 2, 1) := by decide +kernel
theorem d40_1 : decode (mB 40) 1 = .ok (.tableswitch 106 80 83 #[31, 69, 72, 89], 31) := by decide +kernel
theorem d40_32 : decode (mB 40) 32 = .ok (.iload_n 3, 1) := by decide +kernel
theorem d40_33 : decode (mB 40) 33 = .ok (.aload_n 1, 1) := by decide +kernel
theorem d40_34 : decode (mB 40) 34 = .ok (.getfield 29, 3) := by decide +kernel
theorem d40_37 : decode (mB 40) 37 = .ok (.iconst 0, 1) := by decide +kernel
theorem d40_38 : decode (mB 40) 38 = .ok (.aaload, 1) := by decide +kernel
theorem d40_39 : decode (mB 40) 39 = .ok (.getfield 35, 3) := by decide +kernel
theorem d40_42 : decode (mB 40) 42 = .ok (.isub, 1) := by decide +kernel
theorem d40_43 : decode (mB 40) 43 = .ok (.aload_n 0, 1) := by decide +kernel
theorem d40_44 : decode (mB 40) 44 = .ok (.getfield 19, 3) := by decide +kernel
theorem d40_47 : decode (mB 40) 47 = .ok (.imul, 1) := by decide +kernel
theorem d40_48 : decode (mB 40) 48 = .ok (.iload 4, 2) := by decide +kernel
theorem d40_50 : decode (mB 40) 50 = .ok (.iadd, 1) := by decide +kernel
theorem d40_51 : decode (mB 40) 51 = .ok (.istore 5, 2) := by decide +kernel
theorem d40_53 : decode (mB 40) 53 = .ok (.aload_n 0, 1) := by decide +kernel
theorem d40_54 : decode (mB 40) 54 = .ok (.aload_n 1, 1) := by decide +kernel
theorem d40_55 : decode (mB 40) 55 = .ok (.getfield 40, 3) := by decide +kernel
theorem d40_58 : decode (mB 40) 58 = .ok (.aload_n 1, 1) := by decide +kernel
theorem d40_59 : decode (mB 40) 59 = .ok (.getfield 43, 3) := by decide +kernel
theorem d40_62 : decode (mB 40) 62 = .ok (.iconst 0, 1) := by decide +kernel
theorem d40_63 : decode (mB 40) 63 = .ok (.iconst 0, 1) := by decide +kernel
theorem d40_64 : decode (mB 40) 64 = .ok (.iload 5, 2) := by decide +kernel
theorem d40_66 : decode (mB 40) 66 = .ok (.invokevirtual 46, 3) := by decide +kernel
theorem d40_69 : decode (mB 40) 69 = .ok (.ireturn, 1) := by decide +kernel
theorem d40_70 : decode (mB 40) 70 = .ok (.bipush 35, 2) := by decide +kernel
theorem d40_72 : decode (mB 40) 72 = .ok (.ireturn, 1) := by decide +kernel
theorem d40_73 : decode (mB 40) 73 = .ok (.bipush 62, 2) := by decide +kernel
theorem d40_75 : decode (mB 40) 75 = .ok (.aload_n 1, 1) := by decide +kernel
theorem d40_76 : decode (mB 40) 76 = .ok (.getfield 29, 3) := by decide +kernel
theorem d40_79 : decode (mB 40) 79 = .ok (.iconst 1, 1) := by decide +kernel
theorem d40_80 : decode (mB 40) 80 = .ok (.aaload, 1) := by decide +kernel
theorem d40_81 : decode (mB 40) 81 = .ok (.getfield 50, 3) := by decide +kernel
theorem d40_84 : decode (mB 40) 84 = .ok (.iload 4, 2) := by decide +kernel
theorem d40_86 : decode (mB 40) 86 = .ok (.invokestatic 53, 3) := by decide +kernel
theorem d40_89 : decode (mB 40) 89 = .ok (.ireturn, 1) := by decide +kernel
theorem d40_90 : decode (mB 40) 90 = .ok (.bipush 60, 2) := by decide +kernel
theorem d40_92 : decode (mB 40) 92 = .ok (.aload_n 1, 1) := by decide +kernel
theorem d40_93 : decode (mB 40) 93 = .ok (.getfield 29, 3) := by decide +kernel
theorem d40_96 : decode (mB 40) 96 = .ok (.iconst 0, 1) := by decide +kernel
theorem d40_97 : decode (mB 40) 97 = .ok (.aaload, 1) := by decide +kernel
theorem d40_98 : decode (mB 40) 98 = .ok (.getfield 50, 3) := by decide +kernel
theorem d40_101 : decode (mB 40) 101 = .ok (.iload 4, 2) := by decide +kernel
theorem d40_103 : decode (mB 40) 103 = .ok (.invokestatic 53, 3) := by decide +kernel
theorem d40_106 : decode (mB 40) 106 = .ok (.ireturn, 1) := by decide +kernel
theorem d40_107 : decode (mB 40) 107 = .ok (.iload_n 2, 1) := by decide +kernel
theorem d40_108 : decode (mB 40) 108 = .ok (.bipush 40, 2) := by decide +kernel
theorem d40_110 : decode (mB 40) 110 = .ok (.if_icmp .ge 14, 3) := by decide +kernel
theorem d40_113 : decode (mB 40) 113 = .ok (.aload_n 0, 1) := by decide +kernel
theorem d40_114 : decode (mB 40) 114 = .ok (.aload_n 1, 1) := by decide +kernel
theorem d40_115 : decode (mB 40) 115 = .ok (.iload_n 2, 1) := by decide +kernel
theorem d40_116 : decode (mB 40) 116 = .ok (.iload 4, 2) := by decide +kernel
theorem d40_118 : decode (mB 40) 118 = .ok (.invokevirtual 57, 3) := by decide +kernel
theorem d40_121 : decode (mB 40) 121 = .ok (.goto 4, 3) := by decide +kernel
theorem d40_124 : decode (mB 40) 124 = .ok (.iconst 0, 1) := by decide +kernel
theorem d40_125 : decode (mB 40) 125 = .ok (.ireturn, 1) := by decide +kernel
theorem v40_0 (L : Nat) (xs : Nat → Int32) : zVal L xs 40 0 (.inl (i_il 2 1)) := zS_iload_n d40_0 rfl
theorem v40_1 (L : Nat) (xs : Nat → Int32) : zVal L xs 40 1 (.inl (i_ts 80 83 [32, 70, 73, 90] 107)) := zS_tsw d40_1 (by decide) (by decide +kernel)
theorem v40_32 (L : Nat) (xs : Nat → Int32) : zVal L xs 40 32 (.inl (i_il 3 33)) := zS_iload_n d40_32 rfl
theorem v40_33 (L : Nat) (xs : Nat → Int32) : zVal L xs 40 33 (.inl (i_al 1 34)) := zS_aload_n d40_33 rfl
theorem v40_34 (L : Nat) (xs : Nat → Int32) : zVal L xs 40 34 (.inl (i_gf 9 7 37)) := zS_getfN (host := "EditionGrid") d40_34 (zcl9) (by decide) zi9 (by decide +kernel)
theorem v40_37 (L : Nat) (xs : Nat → Int32) : zVal L xs 40 37 (.inl (i_c (.int 0) 38)) := zS_iconst d40_37 (by decide)
theorem v40_38 (L : Nat) (xs : Nat → Int32) : zVal L xs 40 38 (.inl (i_gq 5 39)) := zS_aald5 d40_38
theorem v40_39 (L : Nat) (xs : Nat → Int32) : zVal L xs 40 39 (.inl (i_gf 4 2 42)) := zS_getfN (host := "EditionGrid") d40_39 (zcl4) (by decide) zi4 (by decide +kernel)
theorem v40_42 (L : Nat) (xs : Nat → Int32) : zVal L xs 40 42 (.inl (i_bi (fun x y => x - y) 43)) := zS_isub d40_42
theorem v40_43 (L : Nat) (xs : Nat → Int32) : zVal L xs 40 43 (.inl (i_al 0 44)) := zS_aload_n d40_43 rfl
theorem v40_44 (L : Nat) (xs : Nat → Int32) : zVal L xs 40 44 (.inl (i_gf 3 0 47)) := zS_getf d40_44 (zcl3) (by decide) zi3 w387
theorem v40_47 (L : Nat) (xs : Nat → Int32) : zVal L xs 40 47 (.inl (i_bi (fun x y => x * y) 48)) := zS_imul d40_47
theorem v40_48 (L : Nat) (xs : Nat → Int32) : zVal L xs 40 48 (.inl (i_il 4 50)) := zS_iload d40_48
theorem v40_50 (L : Nat) (xs : Nat → Int32) : zVal L xs 40 50 (.inl (i_bi (fun x y => x + y) 51)) := zS_iadd d40_50
theorem v40_51 (L : Nat) (xs : Nat → Int32) : zVal L xs 40 51 (.inl (i_is 5 53)) := zS_istore d40_51
theorem v40_53 (L : Nat) (xs : Nat → Int32) : zVal L xs 40 53 (.inl (i_al 0 54)) := zS_aload_n d40_53 rfl
theorem v40_54 (L : Nat) (xs : Nat → Int32) : zVal L xs 40 54 (.inl (i_al 1 55)) := zS_aload_n d40_54 rfl
theorem v40_55 (L : Nat) (xs : Nat → Int32) : zVal L xs 40 55 (.inl (i_gf 9 9 58)) := zS_getfN (host := "EditionGrid") d40_55 (zcl9) (by decide) zi9 (by decide +kernel)
theorem v40_58 (L : Nat) (xs : Nat → Int32) : zVal L xs 40 58 (.inl (i_al 1 59)) := zS_aload_n d40_58 rfl
theorem v40_59 (L : Nat) (xs : Nat → Int32) : zVal L xs 40 59 (.inl (i_gf 9 10 62)) := zS_getfN (host := "EditionGrid") d40_59 (zcl9) (by decide) zi9 (by decide +kernel)
theorem v40_62 (L : Nat) (xs : Nat → Int32) : zVal L xs 40 62 (.inl (i_c (.int 0) 63)) := zS_iconst d40_62 (by decide)
theorem v40_63 (L : Nat) (xs : Nat → Int32) : zVal L xs 40 63 (.inl (i_c (.int 0) 64)) := zS_iconst d40_63 (by decide)
theorem v40_64 (L : Nat) (xs : Nat → Int32) : zVal L xs 40 64 (.inl (i_il 5 66)) := zS_iload d40_64
theorem v40_66 (L : Nat) (xs : Nat → Int32) : zVal L xs 40 66 (.inr (.inl (43, 6, 4))) := ⟨by decide +kernel, by decide +kernel, zc_virt d40_66 zcl3 w748 w745 w747 w30 w83 ⟨by decide +kernel, by decide +kernel, by decide +kernel⟩ (by decide) (by decide)⟩
theorem v40_69 (L : Nat) (xs : Nat → Int32) : zVal L xs 40 69 (.inr (.inr 1)) := zr_1 d40_69 rfl
theorem v40_70 (L : Nat) (xs : Nat → Int32) : zVal L xs 40 70 (.inl (i_c (.int 35) 72)) := zS_bipush d40_70 (by decide)
theorem v40_72 (L : Nat) (xs : Nat → Int32) : zVal L xs 40 72 (.inr (.inr 1)) := zr_1 d40_72 rfl
theorem v40_73 (L : Nat) (xs : Nat → Int32) : zVal L xs 40 73 (.inl (i_c (.int 62) 75)) := zS_bipush d40_73 (by decide)
theorem v40_75 (L : Nat) (xs : Nat → Int32) : zVal L xs 40 75 (.inl (i_al 1 76)) := zS_aload_n d40_75 rfl
theorem v40_76 (L : Nat) (xs : Nat → Int32) : zVal L xs 40 76 (.inl (i_gf 9 7 79)) := zS_getfN (host := "EditionGrid") d40_76 (zcl9) (by decide) zi9 (by decide +kernel)
theorem v40_79 (L : Nat) (xs : Nat → Int32) : zVal L xs 40 79 (.inl (i_c (.int 1) 80)) := zS_iconst d40_79 (by decide)
theorem v40_80 (L : Nat) (xs : Nat → Int32) : zVal L xs 40 80 (.inl (i_gq 5 81)) := zS_aald5 d40_80
theorem v40_81 (L : Nat) (xs : Nat → Int32) : zVal L xs 40 81 (.inl (i_gf 4 1 84)) := zS_getfN (host := "EditionGrid") d40_81 (zcl4) (by decide) zi4 (by decide +kernel)
theorem v40_84 (L : Nat) (xs : Nat → Int32) : zVal L xs 40 84 (.inl (i_il 4 86)) := zS_iload d40_84
theorem v40_86 (L : Nat) (xs : Nat → Int32) : zVal L xs 40 86 (.inr (.inl (41, 3, 0))) := ⟨by decide +kernel, by decide +kernel, zc_static d40_86 w756 w754 w755 w83 ⟨by decide +kernel, by decide +kernel, by decide +kernel⟩ (by decide) (by decide)⟩
theorem v40_89 (L : Nat) (xs : Nat → Int32) : zVal L xs 40 89 (.inr (.inr 1)) := zr_1 d40_89 rfl
theorem v40_90 (L : Nat) (xs : Nat → Int32) : zVal L xs 40 90 (.inl (i_c (.int 60) 92)) := zS_bipush d40_90 (by decide)
theorem v40_92 (L : Nat) (xs : Nat → Int32) : zVal L xs 40 92 (.inl (i_al 1 93)) := zS_aload_n d40_92 rfl
theorem v40_93 (L : Nat) (xs : Nat → Int32) : zVal L xs 40 93 (.inl (i_gf 9 7 96)) := zS_getfN (host := "EditionGrid") d40_93 (zcl9) (by decide) zi9 (by decide +kernel)
theorem v40_96 (L : Nat) (xs : Nat → Int32) : zVal L xs 40 96 (.inl (i_c (.int 0) 97)) := zS_iconst d40_96 (by decide)
theorem v40_97 (L : Nat) (xs : Nat → Int32) : zVal L xs 40 97 (.inl (i_gq 5 98)) := zS_aald5 d40_97
theorem v40_98 (L : Nat) (xs : Nat → Int32) : zVal L xs 40 98 (.inl (i_gf 4 1 101)) := zS_getfN (host := "EditionGrid") d40_98 (zcl4) (by decide) zi4 (by decide +kernel)
theorem v40_101 (L : Nat) (xs : Nat → Int32) : zVal L xs 40 101 (.inl (i_il 4 103)) := zS_iload d40_101
theorem v40_103 (L : Nat) (xs : Nat → Int32) : zVal L xs 40 103 (.inr (.inl (41, 3, 0))) := ⟨by decide +kernel, by decide +kernel, zc_static d40_103 w756 w754 w755 w83 ⟨by decide +kernel, by decide +kernel, by decide +kernel⟩ (by decide) (by decide)⟩
theorem v40_106 (L : Nat) (xs : Nat → Int32) : zVal L xs 40 106 (.inr (.inr 1)) := zr_1 d40_106 rfl
theorem v40_107 (L : Nat) (xs : Nat → Int32) : zVal L xs 40 107 (.inl (i_il 2 108)) := zS_iload_n d40_107 rfl
theorem v40_108 (L : Nat) (xs : Nat → Int32) : zVal L xs 40 108 (.inl (i_c (.int 40) 110)) := zS_bipush d40_108 (by decide)
theorem v40_110 (L : Nat) (xs : Nat → Int32) : zVal L xs 40 110 (.inl (i_f2 (fun x y => decide (y ≤ x)) 124 113)) := zS_icmp_ge d40_110 (by decide)
theorem v40_113 (L : Nat) (xs : Nat → Int32) : zVal L xs 40 113 (.inl (i_al 0 114)) := zS_aload_n d40_113 rfl
theorem v40_114 (L : Nat) (xs : Nat → Int32) : zVal L xs 40 114 (.inl (i_al 1 115)) := zS_aload_n d40_114 rfl
theorem v40_115 (L : Nat) (xs : Nat → Int32) : zVal L xs 40 115 (.inl (i_il 2 116)) := zS_iload_n d40_115 rfl
theorem v40_116 (L : Nat) (xs : Nat → Int32) : zVal L xs 40 116 (.inl (i_il 4 118)) := zS_iload d40_116
theorem v40_118 (L : Nat) (xs : Nat → Int32) : zVal L xs 40 118 (.inr (.inl (42, 4, 4))) := ⟨by decide +kernel, by decide +kernel, zc_virt d40_118 zcl3 w760 w757 w759 w32 w83 ⟨by decide +kernel, by decide +kernel, by decide +kernel⟩ (by decide) (by decide)⟩
theorem v40_121 (L : Nat) (xs : Nat → Int32) : zVal L xs 40 121 (.inl (i_go 125)) := zS_goto d40_121 (by decide)
theorem v40_124 (L : Nat) (xs : Nat → Int32) : zVal L xs 40 124 (.inl (i_c (.int 0) 125)) := zS_iconst d40_124 (by decide)
theorem v40_125 (L : Nat) (xs : Nat → Int32) : zVal L xs 40 125 (.inr (.inr 1)) := zr_1 d40_125 rfl
theorem vt40 (L : Nat) (xs : Nat → Int32) : zAll (fun x => zVal L xs 40 x.1 x.2) (tb40) := ⟨v40_0 L xs, v40_1 L xs, v40_32 L xs, v40_33 L xs, v40_34 L xs, v40_37 L xs, v40_38 L xs, v40_39 L xs, v40_42 L xs, v40_43 L xs, v40_44 L xs, v40_47 L xs, v40_48 L xs, v40_50 L xs, v40_51 L xs, v40_53 L xs, v40_54 L xs, v40_55 L xs, v40_58 L xs, v40_59 L xs, v40_62 L xs, v40_63 L xs, v40_64 L xs, v40_66 L xs, v40_69 L xs, v40_70 L xs, v40_72 L xs, v40_73 L xs, v40_75 L xs, v40_76 L xs, v40_79 L xs, v40_80 L xs, v40_81 L xs, v40_84 L xs, v40_86 L xs, v40_89 L xs, v40_90 L xs, v40_92 L xs, v40_93 L xs, v40_96 L xs, v40_97 L xs, v40_98 L xs, v40_101 L xs, v40_103 L xs, v40_106 L xs, v40_107 L xs, v40_108 L xs, v40_110 L xs, v40_113 L xs, v40_114 L xs, v40_115 L xs, v40_116 L xs, v40_118 L xs, v40_121 L xs, v40_124 L xs, v40_125 L xs, trivial⟩
theorem d41_0 : decode (mB 41) 0 = .ok (.iload_n 2, 1) := by decide +kernel
theorem d41_1 : decode (mB 41) 1 = .ok (.ifCond .ne 5, 3) := by decide +kernel
theorem d41_4 : decode (mB 41) 4 = .ok (.iload_n 0, 1) := by decide +kernel
theorem d41_5 : decode (mB 41) 5 = .ok (.ireturn, 1) := by decide +kernel
theorem d41_6 : decode (mB 41) 6 = .ok (.iload_n 2, 1) := by decide +kernel
theorem d41_7 : decode (mB 41) 7 = .ok (.iconst 1, 1) := by decide +kernel
theorem d41_8 : decode (mB 41) 8 = .ok (.if_icmp .ne 10, 3) := by decide +kernel
theorem d41_11 : decode (mB 41) 11 = .ok (.bipush 49, 2) := by decide +kernel
theorem d41_13 : decode (mB 41) 13 = .ok (.iload_n 1, 1) := by decide +kernel
theorem d41_14 : decode (mB 41) 14 = .ok (.iadd, 1) := by decide +kernel
theorem d41_15 : decode (mB 41) 15 = .ok (.goto 4, 3) := by decide +kernel
theorem d41_18 : decode (mB 41) 18 = .ok (.iconst 0, 1) := by decide +kernel
theorem d41_19 : decode (mB 41) 19 = .ok (.ireturn, 1) := by decide +kernel
theorem v41_0 (L : Nat) (xs : Nat → Int32) : zVal L xs 41 0 (.inl (i_il 2 1)) := zS_iload_n d41_0 rfl
theorem v41_1 (L : Nat) (xs : Nat → Int32) : zVal L xs 41 1 (.inl (i_f1 (fun x => decide (¬ x = 0)) 6 4)) := zS_if_ne d41_1 (by decide)
theorem v41_4 (L : Nat) (xs : Nat → Int32) : zVal L xs 41 4 (.inl (i_il 0 5)) := zS_iload_n d41_4 rfl
theorem v41_5 (L : Nat) (xs : Nat → Int32) : zVal L xs 41 5 (.inr (.inr 1)) := zr_1 d41_5 rfl
theorem v41_6 (L : Nat) (xs : Nat → Int32) : zVal L xs 41 6 (.inl (i_il 2 7)) := zS_iload_n d41_6 rfl
theorem v41_7 (L : Nat) (xs : Nat → Int32) : zVal L xs 41 7 (.inl (i_c (.int 1) 8)) := zS_iconst d41_7 (by decide)
theorem v41_8 (L : Nat) (xs : Nat → Int32) : zVal L xs 41 8 (.inl (i_f2 (fun x y => decide (¬ x = y)) 18 11)) := zS_icmp_ne d41_8 (by decide)
theorem v41_11 (L : Nat) (xs : Nat → Int32) : zVal L xs 41 11 (.inl (i_c (.int 49) 13)) := zS_bipush d41_11 (by decide)
theorem v41_13 (L : Nat) (xs : Nat → Int32) : zVal L xs 41 13 (.inl (i_il 1 14)) := zS_iload_n d41_13 rfl
theorem v41_14 (L : Nat) (xs : Nat → Int32) : zVal L xs 41 14 (.inl (i_bi (fun x y => x + y) 15)) := zS_iadd d41_14
theorem v41_15 (L : Nat) (xs : Nat → Int32) : zVal L xs 41 15 (.inl (i_go 19)) := zS_goto d41_15 (by decide)
theorem v41_18 (L : Nat) (xs : Nat → Int32) : zVal L xs 41 18 (.inl (i_c (.int 0) 19)) := zS_iconst d41_18 (by decide)
theorem v41_19 (L : Nat) (xs : Nat → Int32) : zVal L xs 41 19 (.inr (.inr 1)) := zr_1 d41_19 rfl
theorem vt41 (L : Nat) (xs : Nat → Int32) : zAll (fun x => zVal L xs 41 x.1 x.2) (tb41) := ⟨v41_0 L xs, v41_1 L xs, v41_4 L xs, v41_5 L xs, v41_6 L xs, v41_7 L xs, v41_8 L xs, v41_11 L xs, v41_13 L xs, v41_14 L xs, v41_15 L xs, v41_18 L xs, v41_19 L xs, trivial⟩
theorem d42_0 : decode (mB 42) 0 = .ok (.aload_n 1, 1) := by decide +kernel
theorem d42_1 : decode (mB 42) 1 = .ok (.getfield 61, 3) := by decide +kernel
theorem d42_4 : decode (mB 42) 4 = .ok (.iload_n 2, 1) := by decide +kernel
theorem d42_5 : decode (mB 42) 5 = .ok (.iaload, 1) := by decide +kernel
theorem d42_6 : decode (mB 42) 6 = .ok (.istore 4, 2) := by decide +kernel
theorem d42_8 : decode (mB 42) 8 = .ok (.aload_n 1, 1) := by decide +kernel
theorem d42_9 : decode (mB 42) 9 = .ok (.getfield 64, 3) := by decide +kernel
theorem d42_12 : decode (mB 42) 12 = .ok (.iload_n 2, 1) := by decide +kernel
theorem d42_13 : decode (mB 42) 13 = .ok (.iaload, 1) := by decide +kernel
theorem d42_14 : decode (mB 42) 14 = .ok (.istore 5, 2) := by decide +kernel
theorem d42_16 : decode (mB 42) 16 = .ok (.aload_n 1, 1) := by decide +kernel
theorem d42_17 : decode (mB 42) 17 = .ok (.getfield 67, 3) := by decide +kernel
theorem d42_20 : decode (mB 42) 20 = .ok (.iload_n 2, 1) := by decide +kernel
theorem d42_21 : decode (mB 42) 21 = .ok (.iaload, 1) := by decide +kernel
theorem d42_22 : decode (mB 42) 22 = .ok (.iconst 2, 1) := by decide +kernel
theorem d42_23 : decode (mB 42) 23 = .ok (.if_icmp .ne 7, 3) := by decide +kernel
theorem d42_26 : decode (mB 42) 26 = .ok (.iconst 2, 1) := by decide +kernel
theorem d42_27 : decode (mB 42) 27 = .ok (.goto 4, 3) := by decide +kernel
theorem d42_30 : decode (mB 42) 30 = .ok (.iconst 0, 1) := by decide +kernel
theorem d42_31 : decode (mB 42) 31 = .ok (.istore 6, 2) := by decide +kernel
theorem d42_33 : decode (mB 42) 33 = .ok (.aload_n 0, 1) := by decide +kernel
theorem d42_34 : decode (mB 42) 34 = .ok (.iload 4, 2) := by decide +kernel
theorem d42_36 : decode (mB 42) 36 = .ok (.iload 5, 2) := by decide +kernel
theorem d42_38 : decode (mB 42) 38 = .ok (.invokevirtual 70, 3) := by decide +kernel
theorem d42_41 : decode (mB 42) 41 = .ok (.istore 7, 2) := by decide +kernel
theorem d42_43 : decode (mB 42) 43 = .ok (.aload_n 0, 1) := by decide +kernel
theorem d42_44 : decode (mB 42) 44 = .ok (.iload 4, 2) := by decide +kernel
theorem d42_46 : decode (mB 42) 46 = .ok (.iload 5, 2) := by decide +kernel
theorem d42_48 : decode (mB 42) 48 = .ok (.invokevirtual 74, 3) := by decide +kernel
theorem d42_51 : decode (mB 42) 51 = .ok (.istore 8, 2) := by decide +kernel
theorem d42_53 : decode (mB 42) 53 = .ok (.iconst 0, 1) := by decide +kernel
theorem d42_54 : decode (mB 42) 54 = .ok (.istore 9, 2) := by decide +kernel
theorem d42_56 : decode (mB 42) 56 = .ok (.aload_n 1, 1) := by decide +kernel
theorem d42_57 : decode (mB 42) 57 = .ok (.getfield 67, 3) := by decide +kernel
theorem d42_60 : decode (mB 42) 60 = .ok (.iload_n 2, 1) := by decide +kernel
theorem d42_61 : decode (mB 42) 61 = .ok (.iaload, 1) := by decide +kernel
theorem d42_62 : decode (mB 42) 62 = .ok (.iconst 3, 1) := by decide +kernel
theorem d42_63 : decode (mB 42) 63 = .ok (.if_icmp .eq 27, 3) := by decide +kernel
theorem d42_66 : decode (mB 42) 66 = .ok (.iload 8, 2) := by decide +kernel
theorem d42_68 : decode (mB 42) 68 = .ok (.ifCond .le 22, 3) := by decide +kernel
theorem d42_71 : decode (mB 42) 71 = .ok (.aload_n 0, 1) := by decide +kernel
theorem d42_72 : decode (mB 42) 72 = .ok (.getfield 19, 3) := by decide +kernel
theorem d42_75 : decode (mB 42) 75 = .ok (.iload 7, 2) := by decide +kernel
theorem d42_77 : decode (mB 42) 77 = .ok (.isub, 1) := by decide +kernel
theorem d42_78 : decode (mB 42) 78 = .ok (.iload 6, 2) := by decide +kernel
theorem d42_80 : decode (mB 42) 80 = .ok (.isub, 1) := by decide +kernel
theorem d42_81 : decode (mB 42) 81 = .ok (.istore 9, 2) := by decide +kernel
theorem d42_83 : decode (mB 42) 83 = .ok (.iload 7, 2) := by decide +kernel
theorem d42_85 : decode (mB 42) 85 = .ok (.iload 9, 2) := by decide +kernel
theorem d42_87 : decode (mB 42) 87 = .ok (.iadd, 1) := by decide +kernel
theorem d42_88 : decode (mB 42) 88 = .ok (.istore 7, 2) := by decide +kernel
theorem d42_90 : decode (mB 42) 90 = .ok (.iload_n 3, 1) := by decide +kernel
theorem d42_91 : decode (mB 42) 91 = .ok (.iload 7, 2) := by decide +kernel
theorem d42_93 : decode (mB 42) 93 = .ok (.if_icmp .lt 19, 3) := by decide +kernel
theorem d42_96 : decode (mB 42) 96 = .ok (.iload_n 3, 1) := by decide +kernel
theorem d42_97 : decode (mB 42) 97 = .ok (.iload 7, 2) := by decide +kernel
theorem d42_99 : decode (mB 42) 99 = .ok (.iload 6, 2) := by decide +kernel
theorem d42_101 : decode (mB 42) 101 = .ok (.iadd, 1) := by decide +kernel
theorem d42_102 : decode (mB 42) 102 = .ok (.if_icmp .ge 8, 3) := by decide +kernel
theorem d42_105 : decode (mB 42) 105 = .ok (.bipush 45, 2) := by decide +kernel
theorem d42_107 : decode (mB 42) 107 = .ok (.goto 4, 3) := by decide +kernel
theorem d42_110 : decode (mB 42) 110 = .ok (.iconst 0, 1) := by decide +kernel
theorem d42_111 : decode (mB 42) 111 = .ok (.ireturn, 1) := by decide +kernel
theorem d42_112 : decode (mB 42) 112 = .ok (.aload_n 0, 1) := by decide +kernel
theorem d42_113 : decode (mB 42) 113 = .ok (.iload 4, 2) := by decide +kernel
theorem d42_115 : decode (mB 42) 115 = .ok (.iload 5, 2) := by decide +kernel
theorem d42_117 : decode (mB 42) 117 = .ok (.iload 9, 2) := by decide +kernel
theorem d42_119 : decode (mB 42) 119 = .ok (.iload 8, 2) := by decide +kernel
theorem d42_121 : decode (mB 42) 121 = .ok (.iload_n 3, 1) := by decide +kernel
theorem d42_122 : decode (mB 42) 122 = .ok (.invokevirtual 46, 3) := by decide +kernel
theorem d42_125 : decode (mB 42) 125 = .ok (.ireturn, 1) := by decide +kernel
theorem v42_0 (L : Nat) (xs : Nat → Int32) : zVal L xs 42 0 (.inl (i_al 1 1)) := zS_aload_n d42_0 rfl
theorem v42_1 (L : Nat) (xs : Nat → Int32) : zVal L xs 42 1 (.inl (i_gf 9 4 4)) := zS_getfN (host := "EditionGrid") d42_1 (zcl9) (by decide) zi9 (by decide +kernel)
theorem v42_4 (L : Nat) (xs : Nat → Int32) : zVal L xs 42 4 (.inl (i_il 2 5)) := zS_iload_n d42_4 rfl
theorem v42_5 (L : Nat) (xs : Nat → Int32) : zVal L xs 42 5 (.inl (i_ga 0 6)) := zS_iald d42_5
theorem v42_6 (L : Nat) (xs : Nat → Int32) : zVal L xs 42 6 (.inl (i_is 4 8)) := zS_istore d42_6
theorem v42_8 (L : Nat) (xs : Nat → Int32) : zVal L xs 42 8 (.inl (i_al 1 9)) := zS_aload_n d42_8 rfl
theorem v42_9 (L : Nat) (xs : Nat → Int32) : zVal L xs 42 9 (.inl (i_gf 9 5 12)) := zS_getfN (host := "EditionGrid") d42_9 (zcl9) (by decide) zi9 (by decide +kernel)
theorem v42_12 (L : Nat) (xs : Nat → Int32) : zVal L xs 42 12 (.inl (i_il 2 13)) := zS_iload_n d42_12 rfl
theorem v42_13 (L : Nat) (xs : Nat → Int32) : zVal L xs 42 13 (.inl (i_ga 0 14)) := zS_iald d42_13
theorem v42_14 (L : Nat) (xs : Nat → Int32) : zVal L xs 42 14 (.inl (i_is 5 16)) := zS_istore d42_14
theorem v42_16 (L : Nat) (xs : Nat → Int32) : zVal L xs 42 16 (.inl (i_al 1 17)) := zS_aload_n d42_16 rfl
theorem v42_17 (L : Nat) (xs : Nat → Int32) : zVal L xs 42 17 (.inl (i_gf 9 6 20)) := zS_getfN (host := "EditionGrid") d42_17 (zcl9) (by decide) zi9 (by decide +kernel)
theorem v42_20 (L : Nat) (xs : Nat → Int32) : zVal L xs 42 20 (.inl (i_il 2 21)) := zS_iload_n d42_20 rfl
theorem v42_21 (L : Nat) (xs : Nat → Int32) : zVal L xs 42 21 (.inl (i_ga 0 22)) := zS_iald d42_21
theorem v42_22 (L : Nat) (xs : Nat → Int32) : zVal L xs 42 22 (.inl (i_c (.int 2) 23)) := zS_iconst d42_22 (by decide)
theorem v42_23 (L : Nat) (xs : Nat → Int32) : zVal L xs 42 23 (.inl (i_f2 (fun x y => decide (¬ x = y)) 30 26)) := zS_icmp_ne d42_23 (by decide)
theorem v42_26 (L : Nat) (xs : Nat → Int32) : zVal L xs 42 26 (.inl (i_c (.int 2) 27)) := zS_iconst d42_26 (by decide)
theorem v42_27 (L : Nat) (xs : Nat → Int32) : zVal L xs 42 27 (.inl (i_go 31)) := zS_goto d42_27 (by decide)
theorem v42_30 (L : Nat) (xs : Nat → Int32) : zVal L xs 42 30 (.inl (i_c (.int 0) 31)) := zS_iconst d42_30 (by decide)
theorem v42_31 (L : Nat) (xs : Nat → Int32) : zVal L xs 42 31 (.inl (i_k [false, false, false, false, false, false, true, true, true, true] (i_is 6 33))) := zS_k (zS_istore d42_31)
theorem v42_33 (L : Nat) (xs : Nat → Int32) : zVal L xs 42 33 (.inl (i_al 0 34)) := zS_aload_n d42_33 rfl
theorem v42_34 (L : Nat) (xs : Nat → Int32) : zVal L xs 42 34 (.inl (i_il 4 36)) := zS_iload d42_34
theorem v42_36 (L : Nat) (xs : Nat → Int32) : zVal L xs 42 36 (.inl (i_il 5 38)) := zS_iload d42_36
theorem v42_38 (L : Nat) (xs : Nat → Int32) : zVal L xs 42 38 (.inr (.inl (44, 3, 4))) := ⟨by decide +kernel, by decide +kernel, zc_virt d42_38 zcl3 w764 w761 w763 w33 w83 ⟨by decide +kernel, by decide +kernel, by decide +kernel⟩ (by decide) (by decide)⟩
theorem v42_41 (L : Nat) (xs : Nat → Int32) : zVal L xs 42 41 (.inl (i_is 7 43)) := zS_istore d42_41
theorem v42_43 (L : Nat) (xs : Nat → Int32) : zVal L xs 42 43 (.inl (i_al 0 44)) := zS_aload_n d42_43 rfl
theorem v42_44 (L : Nat) (xs : Nat → Int32) : zVal L xs 42 44 (.inl (i_il 4 46)) := zS_iload d42_44
theorem v42_46 (L : Nat) (xs : Nat → Int32) : zVal L xs 42 46 (.inl (i_il 5 48)) := zS_iload d42_46
theorem v42_48 (L : Nat) (xs : Nat → Int32) : zVal L xs 42 48 (.inr (.inl (45, 3, 4))) := ⟨by decide +kernel, by decide +kernel, zc_virt d42_48 zcl3 w768 w765 w767 w34 w83 ⟨by decide +kernel, by decide +kernel, by decide +kernel⟩ (by decide) (by decide)⟩
theorem v42_51 (L : Nat) (xs : Nat → Int32) : zVal L xs 42 51 (.inl (i_is 8 53)) := zS_istore d42_51
theorem v42_53 (L : Nat) (xs : Nat → Int32) : zVal L xs 42 53 (.inl (i_c (.int 0) 54)) := zS_iconst d42_53 (by decide)
theorem v42_54 (L : Nat) (xs : Nat → Int32) : zVal L xs 42 54 (.inl (i_is 9 56)) := zS_istore d42_54
theorem v42_56 (L : Nat) (xs : Nat → Int32) : zVal L xs 42 56 (.inl (i_al 1 57)) := zS_aload_n d42_56 rfl
theorem v42_57 (L : Nat) (xs : Nat → Int32) : zVal L xs 42 57 (.inl (i_gf 9 6 60)) := zS_getfN (host := "EditionGrid") d42_57 (zcl9) (by decide) zi9 (by decide +kernel)
theorem v42_60 (L : Nat) (xs : Nat → Int32) : zVal L xs 42 60 (.inl (i_il 2 61)) := zS_iload_n d42_60 rfl
theorem v42_61 (L : Nat) (xs : Nat → Int32) : zVal L xs 42 61 (.inl (i_ga 0 62)) := zS_iald d42_61
theorem v42_62 (L : Nat) (xs : Nat → Int32) : zVal L xs 42 62 (.inl (i_c (.int 3) 63)) := zS_iconst d42_62 (by decide)
theorem v42_63 (L : Nat) (xs : Nat → Int32) : zVal L xs 42 63 (.inl (i_f2 (fun x y => decide (x = y)) 90 66)) := zS_icmp_eq d42_63 (by decide)
theorem v42_66 (L : Nat) (xs : Nat → Int32) : zVal L xs 42 66 (.inl (i_il 8 68)) := zS_iload d42_66
theorem v42_68 (L : Nat) (xs : Nat → Int32) : zVal L xs 42 68 (.inl (i_f1 (fun x => decide (x ≤ 0)) 90 71)) := zS_if_le d42_68 (by decide)
theorem v42_71 (L : Nat) (xs : Nat → Int32) : zVal L xs 42 71 (.inl (i_al 0 72)) := zS_aload_n d42_71 rfl
theorem v42_72 (L : Nat) (xs : Nat → Int32) : zVal L xs 42 72 (.inl (i_gf 3 0 75)) := zS_getf d42_72 (zcl3) (by decide) zi3 w387
theorem v42_75 (L : Nat) (xs : Nat → Int32) : zVal L xs 42 75 (.inl (i_il 7 77)) := zS_iload d42_75
theorem v42_77 (L : Nat) (xs : Nat → Int32) : zVal L xs 42 77 (.inl (i_bi (fun x y => x - y) 78)) := zS_isub d42_77
theorem v42_78 (L : Nat) (xs : Nat → Int32) : zVal L xs 42 78 (.inl (i_il 6 80)) := zS_iload d42_78
theorem v42_80 (L : Nat) (xs : Nat → Int32) : zVal L xs 42 80 (.inl (i_bi (fun x y => x - y) 81)) := zS_isub d42_80
theorem v42_81 (L : Nat) (xs : Nat → Int32) : zVal L xs 42 81 (.inl (i_is 9 83)) := zS_istore d42_81
theorem v42_83 (L : Nat) (xs : Nat → Int32) : zVal L xs 42 83 (.inl (i_il 7 85)) := zS_iload d42_83
theorem v42_85 (L : Nat) (xs : Nat → Int32) : zVal L xs 42 85 (.inl (i_il 9 87)) := zS_iload d42_85
theorem v42_87 (L : Nat) (xs : Nat → Int32) : zVal L xs 42 87 (.inl (i_bi (fun x y => x + y) 88)) := zS_iadd d42_87
theorem v42_88 (L : Nat) (xs : Nat → Int32) : zVal L xs 42 88 (.inl (i_is 7 90)) := zS_istore d42_88
theorem v42_90 (L : Nat) (xs : Nat → Int32) : zVal L xs 42 90 (.inl (i_k [false, true, true, false, false, false, false, false, false, false] (i_il 3 91))) := zS_k (zS_iload_n d42_90 rfl)
theorem v42_91 (L : Nat) (xs : Nat → Int32) : zVal L xs 42 91 (.inl (i_il 7 93)) := zS_iload d42_91
theorem v42_93 (L : Nat) (xs : Nat → Int32) : zVal L xs 42 93 (.inl (i_f2 (fun x y => decide (x < y)) 112 96)) := zS_icmp_lt d42_93 (by decide)
theorem v42_96 (L : Nat) (xs : Nat → Int32) : zVal L xs 42 96 (.inl (i_il 3 97)) := zS_iload_n d42_96 rfl
theorem v42_97 (L : Nat) (xs : Nat → Int32) : zVal L xs 42 97 (.inl (i_il 7 99)) := zS_iload d42_97
theorem v42_99 (L : Nat) (xs : Nat → Int32) : zVal L xs 42 99 (.inl (i_il 6 101)) := zS_iload d42_99
theorem v42_101 (L : Nat) (xs : Nat → Int32) : zVal L xs 42 101 (.inl (i_bi (fun x y => x + y) 102)) := zS_iadd d42_101
theorem v42_102 (L : Nat) (xs : Nat → Int32) : zVal L xs 42 102 (.inl (i_f2 (fun x y => decide (y ≤ x)) 110 105)) := zS_icmp_ge d42_102 (by decide)
theorem v42_105 (L : Nat) (xs : Nat → Int32) : zVal L xs 42 105 (.inl (i_c (.int 45) 107)) := zS_bipush d42_105 (by decide)
theorem v42_107 (L : Nat) (xs : Nat → Int32) : zVal L xs 42 107 (.inl (i_go 111)) := zS_goto d42_107 (by decide)
theorem v42_110 (L : Nat) (xs : Nat → Int32) : zVal L xs 42 110 (.inl (i_c (.int 0) 111)) := zS_iconst d42_110 (by decide)
theorem v42_111 (L : Nat) (xs : Nat → Int32) : zVal L xs 42 111 (.inr (.inr 1)) := zr_1 d42_111 rfl
theorem v42_112 (L : Nat) (xs : Nat → Int32) : zVal L xs 42 112 (.inl (i_al 0 113)) := zS_aload_n d42_112 rfl
theorem v42_113 (L : Nat) (xs : Nat → Int32) : zVal L xs 42 113 (.inl (i_il 4 115)) := zS_iload d42_113
theorem v42_115 (L : Nat) (xs : Nat → Int32) : zVal L xs 42 115 (.inl (i_il 5 117)) := zS_iload d42_115
theorem v42_117 (L : Nat) (xs : Nat → Int32) : zVal L xs 42 117 (.inl (i_il 9 119)) := zS_iload d42_117
theorem v42_119 (L : Nat) (xs : Nat → Int32) : zVal L xs 42 119 (.inl (i_il 8 121)) := zS_iload d42_119
theorem v42_121 (L : Nat) (xs : Nat → Int32) : zVal L xs 42 121 (.inl (i_il 3 122)) := zS_iload_n d42_121 rfl
theorem v42_122 (L : Nat) (xs : Nat → Int32) : zVal L xs 42 122 (.inr (.inl (43, 6, 4))) := ⟨by decide +kernel, by decide +kernel, zc_virt d42_122 zcl3 w748 w745 w747 w30 w83 ⟨by decide +kernel, by decide +kernel, by decide +kernel⟩ (by decide) (by decide)⟩
theorem v42_125 (L : Nat) (xs : Nat → Int32) : zVal L xs 42 125 (.inr (.inr 1)) := zr_1 d42_125 rfl
theorem vt42 (L : Nat) (xs : Nat → Int32) : zAll (fun x => zVal L xs 42 x.1 x.2) (tb42) := ⟨v42_0 L xs, v42_1 L xs, v42_4 L xs, v42_5 L xs, v42_6 L xs, v42_8 L xs, v42_9 L xs, v42_12 L xs, v42_13 L xs, v42_14 L xs, v42_16 L xs, v42_17 L xs, v42_20 L xs, v42_21 L xs, v42_22 L xs, v42_23 L xs, v42_26 L xs, v42_27 L xs, v42_30 L xs, v42_31 L xs, v42_33 L xs, v42_34 L xs, v42_36 L xs, v42_38 L xs, v42_41 L xs, v42_43 L xs, v42_44 L xs, v42_46 L xs, v42_48 L xs, v42_51 L xs, v42_53 L xs, v42_54 L xs, v42_56 L xs, v42_57 L xs, v42_60 L xs, v42_61 L xs, v42_62 L xs, v42_63 L xs, v42_66 L xs, v42_68 L xs, v42_71 L xs, v42_72 L xs, v42_75 L xs, v42_77 L xs, v42_78 L xs, v42_80 L xs, v42_81 L xs, v42_83 L xs, v42_85 L xs, v42_87 L xs, v42_88 L xs, v42_90 L xs, v42_91 L xs, v42_93 L xs, v42_96 L xs, v42_97 L xs, v42_99 L xs, v42_101 L xs, v42_102 L xs, v42_105 L xs, v42_107 L xs, v42_110 L xs, v42_111 L xs, v42_112 L xs, v42_113 L xs, v42_115 L xs, v42_117 L xs, v42_119 L xs, v42_121 L xs, v42_122 L xs, v42_125 L xs, trivial⟩
theorem d43_0 : decode (mB 43) 0 = .ok (.iload 4, 2) := by decide +kernel
theorem d43_2 : decode (mB 43) 2 = .ok (.ifCond .le 10, 3) := by decide +kernel
theorem d43_5 : decode (mB 43) 5 = .ok (.iload_n 3, 1) := by decide +kernel
theorem d43_6 : decode (mB 43) 6 = .ok (.iload 4, 2) := by decide +kernel
theorem d43_8 : decode (mB 43) 8 = .ok (.idiv, 1) := by decide +kernel
theorem d43_9 : decode (mB 43) 9 = .ok (.goto 4, 3) := by decide +kernel
theorem d43_12 : decode (mB 43) 12 = .ok (.iconst 0, 1) := by decide +kernel
theorem d43_13 : decode (mB 43) 13 = .ok (.istore 6, 2) := by decide +kernel
theorem d43_15 : decode (mB 43) 15 = .ok (.iload_n 3, 1) := by decide +kernel
theorem d43_16 : decode (mB 43) 16 = .ok (.iload 6, 2) := by decide +kernel
theorem d43_18 : decode (mB 43) 18 = .ok (.iload 4, 2) := by decide +kernel
theorem d43_20 : decode (mB 43) 20 = .ok (.imul, 1) := by decide +kernel
theorem d43_21 : decode (mB 43) 21 = .ok (.isub, 1) := by decide +kernel
theorem d43_22 : decode (mB 43) 22 = .ok (.istore 7, 2) := by decide +kernel
theorem d43_24 : decode (mB 43) 24 = .ok (.iconst 0, 1) := by decide +kernel
theorem d43_25 : decode (mB 43) 25 = .ok (.istore 8, 2) := by decide +kernel
theorem d43_27 : decode (mB 43) 27 = .ok (.iload_n 1, 1) := by decide +kernel
theorem d43_28 : decode (mB 43) 28 = .ok (.istore 9, 2) := by decide +kernel
theorem d43_30 : decode (mB 43) 30 = .ok (.iload 9, 2) := by decide +kernel
theorem d43_32 : decode (mB 43) 32 = .ok (.iload_n 2, 1) := by decide +kernel
theorem d43_33 : decode (mB 43) 33 = .ok (.if_icmp .ge 94, 3) := by decide +kernel
theorem d43_36 : decode (mB 43) 36 = .ok (.aload_n 0, 1) := by decide +kernel
theorem d43_37 : decode (mB 43) 37 = .ok (.getfield 9, 3) := by decide +kernel
theorem d43_40 : decode (mB 43) 40 = .ok (.iload 9, 2) := by decide +kernel
theorem d43_42 : decode (mB 43) 42 = .ok (.caload, 1) := by decide +kernel
theorem d43_43 : decode (mB 43) 43 = .ok (.bipush 32, 2) := by decide +kernel
theorem d43_45 : decode (mB 43) 45 = .ok (.if_icmp .ne 7, 3) := by decide +kernel
theorem d43_48 : decode (mB 43) 48 = .ok (.iconst 1, 1) := by decide +kernel
theorem d43_49 : decode (mB 43) 49 = .ok (.goto 4, 3) := by decide +kernel
theorem d43_52 : decode (mB 43) 52 = .ok (.iconst 0, 1) := by decide +kernel
theorem d43_53 : decode (mB 43) 53 = .ok (.istore 10, 2) := by decide +kernel
theorem d43_55 : decode (mB 43) 55 = .ok (.iload 8, 2) := by decide +kernel
theorem d43_57 : decode (mB 43) 57 = .ok (.aload_n 0, 1) := by decide +kernel
theorem d43_58 : decode (mB 43) 58 = .ok (.aload_n 0, 1) := by decide +kernel
theorem d43_59 : decode (mB 43) 59 = .ok (.getfield 9, 3) := by decide +kernel
theorem d43_62 : decode (mB 43) 62 = .ok (.iload 9, 2) := by decide +kernel
theorem d43_64 : decode (mB 43) 64 = .ok (.caload, 1) := by decide +kernel
theorem d43_65 : decode (mB 43) 65 = .ok (.invokevirtual 77, 3) := by decide +kernel
theorem d43_68 : decode (mB 43) 68 = .ok (.iadd, 1) := by decide +kernel
theorem d43_69 : decode (mB 43) 69 = .ok (.istore 8, 2) := by decide +kernel
theorem d43_71 : decode (mB 43) 71 = .ok (.iload 10, 2) := by decide +kernel
theorem d43_73 : decode (mB 43) 73 = .ok (.ifCond .eq 24, 3) := by decide +kernel
theorem d43_76 : decode (mB 43) 76 = .ok (.iload 8, 2) := by decide +kernel
theorem d43_78 : decode (mB 43) 78 = .ok (.iload 6, 2) := by decide +kernel
theorem d43_80 : decode (mB 43) 80 = .ok (.iload 7, 2) := by decide +kernel
theorem d43_82 : decode (mB 43) 82 = .ok (.ifCond .le 7, 3) := by decide +kernel
theorem d43_85 : decode (mB 43) 85 = .ok (.iconst 1, 1) := by decide +kernel
theorem d43_86 : decode (mB 43) 86 = .ok (.goto 4, 3) := by decide +kernel
theorem d43_89 : decode (mB 43) 89 = .ok (.iconst 0, 1) := by decide +kernel
theorem d43_90 : decode (mB 43) 90 = .ok (.iadd, 1) := by decide +kernel
theorem d43_91 : decode (mB 43) 91 = .ok (.iadd, 1) := by decide +kernel
theorem d43_92 : decode (mB 43) 92 = .ok (.istore 8, 2) := by decide +kernel
theorem d43_94 : decode (mB 43) 94 = .ok (.iinc 7 (-1), 3) := by decide +kernel
theorem d43_97 : decode (mB 43) 97 = .ok (.iload 5, 2) := by decide +kernel
theorem d43_99 : decode (mB 43) 99 = .ok (.iload 8, 2) := by decide +kernel
theorem d43_101 : decode (mB 43) 101 = .ok (.if_icmp .ge 20, 3) := by decide +kernel
theorem d43_104 : decode (mB 43) 104 = .ok (.iload 10, 2) := by decide +kernel
theorem d43_106 : decode (mB 43) 106 = .ok (.ifCond .eq 7, 3) := by decide +kernel
theorem d43_109 : decode (mB 43) 109 = .ok (.iconst 0, 1) := by decide +kernel
theorem d43_110 : decode (mB 43) 110 = .ok (.goto 10, 3) := by decide +kernel
theorem d43_113 : decode (mB 43) 113 = .ok (.aload_n 0, 1) := by decide +kernel
theorem d43_114 : decode (mB 43) 114 = .ok (.getfield 9, 3) := by decide +kernel
theorem d43_117 : decode (mB 43) 117 = .ok (.iload 9, 2) := by decide +kernel
theorem d43_119 : decode (mB 43) 119 = .ok (.caload, 1) := by decide +kernel
theorem d43_120 : decode (mB 43) 120 = .ok (.ireturn, 1) := by decide +kernel
theorem d43_121 : decode (mB 43) 121 = .ok (.iinc 9 1, 3) := by decide +kernel
theorem d43_124 : decode (mB 43) 124 = .ok (.goto (-94), 3) := by decide +kernel
theorem d43_127 : decode (mB 43) 127 = .ok (.iconst 0, 1) := by decide +kernel
theorem d43_128 : decode (mB 43) 128 = .ok (.ireturn, 1) := by decide +kernel
theorem v43_0 (L : Nat) (xs : Nat → Int32) : zVal L xs 43 0 (.inl (i_il 4 2)) := zS_iload d43_0
theorem v43_2 (L : Nat) (xs : Nat → Int32) : zVal L xs 43 2 (.inl (i_f1 (fun x => decide (x ≤ 0)) 12 5)) := zS_if_le d43_2 (by decide)
theorem v43_5 (L : Nat) (xs : Nat → Int32) : zVal L xs 43 5 (.inl (i_il 3 6)) := zS_iload_n d43_5 rfl
theorem v43_6 (L : Nat) (xs : Nat → Int32) : zVal L xs 43 6 (.inl (i_il 4 8)) := zS_iload d43_6
theorem v43_8 (L : Nat) (xs : Nat → Int32) : zVal L xs 43 8 (.inl (i_bz (fun x y => x / y) 9)) := zS_idiv d43_8
theorem v43_9 (L : Nat) (xs : Nat → Int32) : zVal L xs 43 9 (.inl (i_go 13)) := zS_goto d43_9 (by decide)
theorem v43_12 (L : Nat) (xs : Nat → Int32) : zVal L xs 43 12 (.inl (i_c (.int 0) 13)) := zS_iconst d43_12 (by decide)
theorem v43_13 (L : Nat) (xs : Nat → Int32) : zVal L xs 43 13 (.inl (i_k [false, false, false, false, false, false, true, true, true, true, true] (i_is 6 15))) := zS_k (zS_istore d43_13)
theorem v43_15 (L : Nat) (xs : Nat → Int32) : zVal L xs 43 15 (.inl (i_il 3 16)) := zS_iload_n d43_15 rfl
theorem v43_16 (L : Nat) (xs : Nat → Int32) : zVal L xs 43 16 (.inl (i_il 6 18)) := zS_iload d43_16
theorem v43_18 (L : Nat) (xs : Nat → Int32) : zVal L xs 43 18 (.inl (i_il 4 20)) := zS_iload d43_18
theorem v43_20 (L : Nat) (xs : Nat → Int32) : zVal L xs 43 20 (.inl (i_bi (fun x y => x * y) 21)) := zS_imul d43_20
theorem v43_21 (L : Nat) (xs : Nat → Int32) : zVal L xs 43 21 (.inl (i_bi (fun x y => x - y) 22)) := zS_isub d43_21
theorem v43_22 (L : Nat) (xs : Nat → Int32) : zVal L xs 43 22 (.inl (i_is 7 24)) := zS_istore d43_22
theorem v43_24 (L : Nat) (xs : Nat → Int32) : zVal L xs 43 24 (.inl (i_c (.int 0) 25)) := zS_iconst d43_24 (by decide)
theorem v43_25 (L : Nat) (xs : Nat → Int32) : zVal L xs 43 25 (.inl (i_is 8 27)) := zS_istore d43_25
theorem v43_27 (L : Nat) (xs : Nat → Int32) : zVal L xs 43 27 (.inl (i_il 1 28)) := zS_iload_n d43_27 rfl
theorem v43_28 (L : Nat) (xs : Nat → Int32) : zVal L xs 43 28 (.inl (i_is 9 30)) := zS_istore d43_28
theorem v43_30 (L : Nat) (xs : Nat → Int32) : zVal L xs 43 30 (.inl (i_k [false, true, false, true, true, false, false, false, false, false, true] (i_il 9 32))) := zS_k (zS_iload d43_30)
theorem v43_32 (L : Nat) (xs : Nat → Int32) : zVal L xs 43 32 (.inl (i_il 2 33)) := zS_iload_n d43_32 rfl
theorem v43_33 (L : Nat) (xs : Nat → Int32) : zVal L xs 43 33 (.inl (i_f2 (fun x y => decide (y ≤ x)) 127 36)) := zS_icmp_ge d43_33 (by decide)
theorem v43_36 (L : Nat) (xs : Nat → Int32) : zVal L xs 43 36 (.inl (i_al 0 37)) := zS_aload_n d43_36 rfl
theorem v43_37 (L : Nat) (xs : Nat → Int32) : zVal L xs 43 37 (.inl (i_gf 3 1 40)) := zS_getf d43_37 (zcl3) (by decide) zi3 w388
theorem v43_40 (L : Nat) (xs : Nat → Int32) : zVal L xs 43 40 (.inl (i_il 9 42)) := zS_iload d43_40
theorem v43_42 (L : Nat) (xs : Nat → Int32) : zVal L xs 43 42 (.inl (i_ga 2 43)) := zS_cald d43_42
theorem v43_43 (L : Nat) (xs : Nat → Int32) : zVal L xs 43 43 (.inl (i_c (.int 32) 45)) := zS_bipush d43_43 (by decide)
theorem v43_45 (L : Nat) (xs : Nat → Int32) : zVal L xs 43 45 (.inl (i_f2 (fun x y => decide (¬ x = y)) 52 48)) := zS_icmp_ne d43_45 (by decide)
theorem v43_48 (L : Nat) (xs : Nat → Int32) : zVal L xs 43 48 (.inl (i_c (.int 1) 49)) := zS_iconst d43_48 (by decide)
theorem v43_49 (L : Nat) (xs : Nat → Int32) : zVal L xs 43 49 (.inl (i_go 53)) := zS_goto d43_49 (by decide)
theorem v43_52 (L : Nat) (xs : Nat → Int32) : zVal L xs 43 52 (.inl (i_c (.int 0) 53)) := zS_iconst d43_52 (by decide)
theorem v43_53 (L : Nat) (xs : Nat → Int32) : zVal L xs 43 53 (.inl (i_k [false, true, false, true, true, false, false, false, false, false, true] (i_is 10 55))) := zS_k (zS_istore d43_53)
theorem v43_55 (L : Nat) (xs : Nat → Int32) : zVal L xs 43 55 (.inl (i_il 8 57)) := zS_iload d43_55
theorem v43_57 (L : Nat) (xs : Nat → Int32) : zVal L xs 43 57 (.inl (i_al 0 58)) := zS_aload_n d43_57 rfl
theorem v43_58 (L : Nat) (xs : Nat → Int32) : zVal L xs 43 58 (.inl (i_al 0 59)) := zS_aload_n d43_58 rfl
theorem v43_59 (L : Nat) (xs : Nat → Int32) : zVal L xs 43 59 (.inl (i_gf 3 1 62)) := zS_getf d43_59 (zcl3) (by decide) zi3 w388
theorem v43_62 (L : Nat) (xs : Nat → Int32) : zVal L xs 43 62 (.inl (i_il 9 64)) := zS_iload d43_62
theorem v43_64 (L : Nat) (xs : Nat → Int32) : zVal L xs 43 64 (.inl (i_ga 2 65)) := zS_cald d43_64
theorem v43_65 (L : Nat) (xs : Nat → Int32) : zVal L xs 43 65 (.inr (.inl (46, 2, 4))) := ⟨by decide +kernel, by decide +kernel, zc_virt d43_65 zcl3 w752 w749 w751 w31 w83 ⟨by decide +kernel, by decide +kernel, by decide +kernel⟩ (by decide) (by decide)⟩
theorem v43_68 (L : Nat) (xs : Nat → Int32) : zVal L xs 43 68 (.inl (i_bi (fun x y => x + y) 69)) := zS_iadd d43_68
theorem v43_69 (L : Nat) (xs : Nat → Int32) : zVal L xs 43 69 (.inl (i_is 8 71)) := zS_istore d43_69
theorem v43_71 (L : Nat) (xs : Nat → Int32) : zVal L xs 43 71 (.inl (i_il 10 73)) := zS_iload d43_71
theorem v43_73 (L : Nat) (xs : Nat → Int32) : zVal L xs 43 73 (.inl (i_f1 (fun x => decide (x = 0)) 97 76)) := zS_if_eq d43_73 (by decide)
theorem v43_76 (L : Nat) (xs : Nat → Int32) : zVal L xs 43 76 (.inl (i_il 8 78)) := zS_iload d43_76
theorem v43_78 (L : Nat) (xs : Nat → Int32) : zVal L xs 43 78 (.inl (i_il 6 80)) := zS_iload d43_78
theorem v43_80 (L : Nat) (xs : Nat → Int32) : zVal L xs 43 80 (.inl (i_il 7 82)) := zS_iload d43_80
theorem v43_82 (L : Nat) (xs : Nat → Int32) : zVal L xs 43 82 (.inl (i_f1 (fun x => decide (x ≤ 0)) 89 85)) := zS_if_le d43_82 (by decide)
theorem v43_85 (L : Nat) (xs : Nat → Int32) : zVal L xs 43 85 (.inl (i_c (.int 1) 86)) := zS_iconst d43_85 (by decide)
theorem v43_86 (L : Nat) (xs : Nat → Int32) : zVal L xs 43 86 (.inl (i_go 90)) := zS_goto d43_86 (by decide)
theorem v43_89 (L : Nat) (xs : Nat → Int32) : zVal L xs 43 89 (.inl (i_c (.int 0) 90)) := zS_iconst d43_89 (by decide)
theorem v43_90 (L : Nat) (xs : Nat → Int32) : zVal L xs 43 90 (.inl (i_k [false, true, false, true, true, false, false, false, true, false, false] (i_bi (fun x y => x + y) 91))) := zS_k (zS_iadd d43_90)
theorem v43_91 (L : Nat) (xs : Nat → Int32) : zVal L xs 43 91 (.inl (i_bi (fun x y => x + y) 92)) := zS_iadd d43_91
theorem v43_92 (L : Nat) (xs : Nat → Int32) : zVal L xs 43 92 (.inl (i_is 8 94)) := zS_istore d43_92
theorem v43_94 (L : Nat) (xs : Nat → Int32) : zVal L xs 43 94 (.inl (i_in 7 (-1) 97)) := zS_iinc d43_94 (by decide)
theorem v43_97 (L : Nat) (xs : Nat → Int32) : zVal L xs 43 97 (.inl (i_k [false, true, false, true, true, false, false, false, false, false, false] (i_il 5 99))) := zS_k (zS_iload d43_97)
theorem v43_99 (L : Nat) (xs : Nat → Int32) : zVal L xs 43 99 (.inl (i_il 8 101)) := zS_iload d43_99
theorem v43_101 (L : Nat) (xs : Nat → Int32) : zVal L xs 43 101 (.inl (i_f2 (fun x y => decide (y ≤ x)) 121 104)) := zS_icmp_ge d43_101 (by decide)
theorem v43_104 (L : Nat) (xs : Nat → Int32) : zVal L xs 43 104 (.inl (i_il 10 106)) := zS_iload d43_104
theorem v43_106 (L : Nat) (xs : Nat → Int32) : zVal L xs 43 106 (.inl (i_f1 (fun x => decide (x = 0)) 113 109)) := zS_if_eq d43_106 (by decide)
theorem v43_109 (L : Nat) (xs : Nat → Int32) : zVal L xs 43 109 (.inl (i_c (.int 0) 110)) := zS_iconst d43_109 (by decide)
theorem v43_110 (L : Nat) (xs : Nat → Int32) : zVal L xs 43 110 (.inl (i_go 120)) := zS_goto d43_110 (by decide)
theorem v43_113 (L : Nat) (xs : Nat → Int32) : zVal L xs 43 113 (.inl (i_al 0 114)) := zS_aload_n d43_113 rfl
theorem v43_114 (L : Nat) (xs : Nat → Int32) : zVal L xs 43 114 (.inl (i_gf 3 1 117)) := zS_getf d43_114 (zcl3) (by decide) zi3 w388
theorem v43_117 (L : Nat) (xs : Nat → Int32) : zVal L xs 43 117 (.inl (i_il 9 119)) := zS_iload d43_117
theorem v43_119 (L : Nat) (xs : Nat → Int32) : zVal L xs 43 119 (.inl (i_ga 2 120)) := zS_cald d43_119
theorem v43_120 (L : Nat) (xs : Nat → Int32) : zVal L xs 43 120 (.inr (.inr 1)) := zr_1 d43_120 rfl
theorem v43_121 (L : Nat) (xs : Nat → Int32) : zVal L xs 43 121 (.inl (i_in 9 1 124)) := zS_iinc d43_121 (by decide)
theorem v43_124 (L : Nat) (xs : Nat → Int32) : zVal L xs 43 124 (.inl (i_go 30)) := zS_goto d43_124 (by decide)
theorem v43_127 (L : Nat) (xs : Nat → Int32) : zVal L xs 43 127 (.inl (i_c (.int 0) 128)) := zS_iconst d43_127 (by decide)
theorem v43_128 (L : Nat) (xs : Nat → Int32) : zVal L xs 43 128 (.inr (.inr 1)) := zr_1 d43_128 rfl
theorem vt43 (L : Nat) (xs : Nat → Int32) : zAll (fun x => zVal L xs 43 x.1 x.2) (tb43) := ⟨v43_0 L xs, v43_2 L xs, v43_5 L xs, v43_6 L xs, v43_8 L xs, v43_9 L xs, v43_12 L xs, v43_13 L xs, v43_15 L xs, v43_16 L xs, v43_18 L xs, v43_20 L xs, v43_21 L xs, v43_22 L xs, v43_24 L xs, v43_25 L xs, v43_27 L xs, v43_28 L xs, v43_30 L xs, v43_32 L xs, v43_33 L xs, v43_36 L xs, v43_37 L xs, v43_40 L xs, v43_42 L xs, v43_43 L xs, v43_45 L xs, v43_48 L xs, v43_49 L xs, v43_52 L xs, v43_53 L xs, v43_55 L xs, v43_57 L xs, v43_58 L xs, v43_59 L xs, v43_62 L xs, v43_64 L xs, v43_65 L xs, v43_68 L xs, v43_69 L xs, v43_71 L xs, v43_73 L xs, v43_76 L xs, v43_78 L xs, v43_80 L xs, v43_82 L xs, v43_85 L xs, v43_86 L xs, v43_89 L xs, v43_90 L xs, v43_91 L xs, v43_92 L xs, v43_94 L xs, v43_97 L xs, v43_99 L xs, v43_101 L xs, v43_104 L xs, v43_106 L xs, v43_109 L xs, v43_110 L xs, v43_113 L xs, v43_114 L xs, v43_117 L xs, v43_119 L xs, v43_120 L xs, v43_121 L xs, v43_124 L xs, v43_127 L xs, v43_128 L xs, trivial⟩
theorem d44_0 : decode (mB 44) 0 = .ok (.iconst 0, 1) := by decide +kernel
theorem d44_1 : decode (mB 44) 1 = .ok (.istore_n 3, 1) := by decide +kernel
theorem d44_2 : decode (mB 44) 2 = .ok (.iload_n 1, 1) := by decide +kernel
theorem d44_3 : decode (mB 44) 3 = .ok (.istore 4, 2) := by decide +kernel
theorem d44_5 : decode (mB 44) 5 = .ok (.iload 4, 2) := by decide +kernel
theorem d44_7 : decode (mB 44) 7 = .ok (.iload_n 2, 1) := by decide +kernel
theorem d44_8 : decode (mB 44) 8 = .ok (.if_icmp .ge 23, 3) := by decide +kernel
theorem d44_11 : decode (mB 44) 11 = .ok (.iload_n 3, 1) := by decide +kernel
theorem d44_12 : decode (mB 44) 12 = .ok (.aload_n 0, 1) := by decide +kernel
theorem d44_13 : decode (mB 44) 13 = .ok (.aload_n 0, 1) := by decide +kernel
theorem d44_14 : decode (mB 44) 14 = .ok (.getfield 9, 3) := by decide +kernel
theorem d44_17 : decode (mB 44) 17 = .ok (.iload 4, 2) := by decide +kernel
theorem d44_19 : decode (mB 44) 19 = .ok (.caload, 1) := by decide +kernel
theorem d44_20 : decode (mB 44) 20 = .ok (.invokevirtual 77, 3) := by decide +kernel
theorem d44_23 : decode (mB 44) 23 = .ok (.iadd, 1) := by decide +kernel
theorem d44_24 : decode (mB 44) 24 = .ok (.istore_n 3, 1) := by decide +kernel
theorem d44_25 : decode (mB 44) 25 = .ok (.iinc 4 1, 3) := by decide +kernel
theorem d44_28 : decode (mB 44) 28 = .ok (.goto (-23), 3) := by decide +kernel
theorem d44_31 : decode (mB 44) 31 = .ok (.iload_n 3, 1) := by decide +kernel
theorem d44_32 : decode (mB 44) 32 = .ok (.ireturn, 1) := by decide +kernel
theorem v44_0 (L : Nat) (xs : Nat → Int32) : zVal L xs 44 0 (.inl (i_c (.int 0) 1)) := zS_iconst d44_0 (by decide)
theorem v44_1 (L : Nat) (xs : Nat → Int32) : zVal L xs 44 1 (.inl (i_is 3 2)) := zS_istore_n d44_1 rfl
theorem v44_2 (L : Nat) (xs : Nat → Int32) : zVal L xs 44 2 (.inl (i_il 1 3)) := zS_iload_n d44_2 rfl
theorem v44_3 (L : Nat) (xs : Nat → Int32) : zVal L xs 44 3 (.inl (i_is 4 5)) := zS_istore d44_3
theorem v44_5 (L : Nat) (xs : Nat → Int32) : zVal L xs 44 5 (.inl (i_k [false, true, false, false, false] (i_il 4 7))) := zS_k (zS_iload d44_5)
theorem v44_7 (L : Nat) (xs : Nat → Int32) : zVal L xs 44 7 (.inl (i_il 2 8)) := zS_iload_n d44_7 rfl
theorem v44_8 (L : Nat) (xs : Nat → Int32) : zVal L xs 44 8 (.inl (i_f2 (fun x y => decide (y ≤ x)) 31 11)) := zS_icmp_ge d44_8 (by decide)
theorem v44_11 (L : Nat) (xs : Nat → Int32) : zVal L xs 44 11 (.inl (i_il 3 12)) := zS_iload_n d44_11 rfl
theorem v44_12 (L : Nat) (xs : Nat → Int32) : zVal L xs 44 12 (.inl (i_al 0 13)) := zS_aload_n d44_12 rfl
theorem v44_13 (L : Nat) (xs : Nat → Int32) : zVal L xs 44 13 (.inl (i_al 0 14)) := zS_aload_n d44_13 rfl
theorem v44_14 (L : Nat) (xs : Nat → Int32) : zVal L xs 44 14 (.inl (i_gf 3 1 17)) := zS_getf d44_14 (zcl3) (by decide) zi3 w388
theorem v44_17 (L : Nat) (xs : Nat → Int32) : zVal L xs 44 17 (.inl (i_il 4 19)) := zS_iload d44_17
theorem v44_19 (L : Nat) (xs : Nat → Int32) : zVal L xs 44 19 (.inl (i_ga 2 20)) := zS_cald d44_19
theorem v44_20 (L : Nat) (xs : Nat → Int32) : zVal L xs 44 20 (.inr (.inl (46, 2, 4))) := ⟨by decide +kernel, by decide +kernel, zc_virt d44_20 zcl3 w752 w749 w751 w31 w83 ⟨by decide +kernel, by decide +kernel, by decide +kernel⟩ (by decide) (by decide)⟩
theorem v44_23 (L : Nat) (xs : Nat → Int32) : zVal L xs 44 23 (.inl (i_bi (fun x y => x + y) 24)) := zS_iadd d44_23
theorem v44_24 (L : Nat) (xs : Nat → Int32) : zVal L xs 44 24 (.inl (i_is 3 25)) := zS_istore_n d44_24 rfl
theorem v44_25 (L : Nat) (xs : Nat → Int32) : zVal L xs 44 25 (.inl (i_in 4 1 28)) := zS_iinc d44_25 (by decide)
theorem v44_28 (L : Nat) (xs : Nat → Int32) : zVal L xs 44 28 (.inl (i_go 5)) := zS_goto d44_28 (by decide)
theorem v44_31 (L : Nat) (xs : Nat → Int32) : zVal L xs 44 31 (.inl (i_il 3 32)) := zS_iload_n d44_31 rfl
theorem v44_32 (L : Nat) (xs : Nat → Int32) : zVal L xs 44 32 (.inr (.inr 1)) := zr_1 d44_32 rfl
theorem vt44 (L : Nat) (xs : Nat → Int32) : zAll (fun x => zVal L xs 44 x.1 x.2) (tb44) := ⟨v44_0 L xs, v44_1 L xs, v44_2 L xs, v44_3 L xs, v44_5 L xs, v44_7 L xs, v44_8 L xs, v44_11 L xs, v44_12 L xs, v44_13 L xs, v44_14 L xs, v44_17 L xs, v44_19 L xs, v44_20 L xs, v44_23 L xs, v44_24 L xs, v44_25 L xs, v44_28 L xs, v44_31 L xs, v44_32 L xs, trivial⟩
theorem d45_0 : decode (mB 45) 0 = .ok (.iconst 0, 1) := by decide +kernel
theorem d45_1 : decode (mB 45) 1 = .ok (.istore_n 3, 1) := by decide +kernel
theorem d45_2 : decode (mB 45) 2 = .ok (.iload_n 1, 1) := by decide +kernel
theorem d45_3 : decode (mB 45) 3 = .ok (.istore 4, 2) := by decide +kernel
theorem d45_5 : decode (mB 45) 5 = .ok (.iload 4, 2) := by decide +kernel
theorem d45_7 : decode (mB 45) 7 = .ok (.iload_n 2, 1) := by decide +kernel
theorem d45_8 : decode (mB 45) 8 = .ok (.if_icmp .ge 29, 3) := by decide +kernel
theorem d45_11 : decode (mB 45) 11 = .ok (.iload_n 3, 1) := by decide +kernel
theorem d45_12 : decode (mB 45) 12 = .ok (.aload_n 0, 1) := by decide +kernel
theorem d45_13 : decode (mB 45) 13 = .ok (.getfield 9, 3) := by decide +kernel
theorem d45_16 : decode (mB 45) 16 = .ok (.iload 4, 2) := by decide +kernel
theorem d45_18 : decode (mB 45) 18 = .ok (.caload, 1) := by decide +kernel
theorem d45_19 : decode (mB 45) 19 = .ok (.bipush 32, 2) := by decide +kernel
theorem d45_21 : decode (mB 45) 21 = .ok (.if_icmp .ne 7, 3) := by decide +kernel
theorem d45_24 : decode (mB 45) 24 = .ok (.iconst 1, 1) := by decide +kernel
theorem d45_25 : decode (mB 45) 25 = .ok (.goto 4, 3) := by decide +kernel
theorem d45_28 : decode (mB 45) 28 = .ok (.iconst 0, 1) := by decide +kernel
theorem d45_29 : decode (mB 45) 29 = .ok (.iadd, 1) := by decide +kernel
theorem d45_30 : decode (mB 45) 30 = .ok (.istore_n 3, 1) := by decide +kernel
theorem d45_31 : decode (mB 45) 31 = .ok (.iinc 4 1, 3) := by decide +kernel
theorem d45_34 : decode (mB 45) 34 = .ok (.goto (-29), 3) := by decide +kernel
theorem d45_37 : decode (mB 45) 37 = .ok (.iload_n 3, 1) := by decide +kernel
theorem d45_38 : decode (mB 45) 38 = .ok (.ireturn, 1) := by decide +kernel
theorem v45_0 (L : Nat) (xs : Nat → Int32) : zVal L xs 45 0 (.inl (i_c (.int 0) 1)) := zS_iconst d45_0 (by decide)
theorem v45_1 (L : Nat) (xs : Nat → Int32) : zVal L xs 45 1 (.inl (i_is 3 2)) := zS_istore_n d45_1 rfl
theorem v45_2 (L : Nat) (xs : Nat → Int32) : zVal L xs 45 2 (.inl (i_il 1 3)) := zS_iload_n d45_2 rfl
theorem v45_3 (L : Nat) (xs : Nat → Int32) : zVal L xs 45 3 (.inl (i_is 4 5)) := zS_istore d45_3
theorem v45_5 (L : Nat) (xs : Nat → Int32) : zVal L xs 45 5 (.inl (i_k [false, true, false, false, false] (i_il 4 7))) := zS_k (zS_iload d45_5)
theorem v45_7 (L : Nat) (xs : Nat → Int32) : zVal L xs 45 7 (.inl (i_il 2 8)) := zS_iload_n d45_7 rfl
theorem v45_8 (L : Nat) (xs : Nat → Int32) : zVal L xs 45 8 (.inl (i_f2 (fun x y => decide (y ≤ x)) 37 11)) := zS_icmp_ge d45_8 (by decide)
theorem v45_11 (L : Nat) (xs : Nat → Int32) : zVal L xs 45 11 (.inl (i_il 3 12)) := zS_iload_n d45_11 rfl
theorem v45_12 (L : Nat) (xs : Nat → Int32) : zVal L xs 45 12 (.inl (i_al 0 13)) := zS_aload_n d45_12 rfl
theorem v45_13 (L : Nat) (xs : Nat → Int32) : zVal L xs 45 13 (.inl (i_gf 3 1 16)) := zS_getf d45_13 (zcl3) (by decide) zi3 w388
theorem v45_16 (L : Nat) (xs : Nat → Int32) : zVal L xs 45 16 (.inl (i_il 4 18)) := zS_iload d45_16
theorem v45_18 (L : Nat) (xs : Nat → Int32) : zVal L xs 45 18 (.inl (i_ga 2 19)) := zS_cald d45_18
theorem v45_19 (L : Nat) (xs : Nat → Int32) : zVal L xs 45 19 (.inl (i_c (.int 32) 21)) := zS_bipush d45_19 (by decide)
theorem v45_21 (L : Nat) (xs : Nat → Int32) : zVal L xs 45 21 (.inl (i_f2 (fun x y => decide (¬ x = y)) 28 24)) := zS_icmp_ne d45_21 (by decide)
theorem v45_24 (L : Nat) (xs : Nat → Int32) : zVal L xs 45 24 (.inl (i_c (.int 1) 25)) := zS_iconst d45_24 (by decide)
theorem v45_25 (L : Nat) (xs : Nat → Int32) : zVal L xs 45 25 (.inl (i_go 29)) := zS_goto d45_25 (by decide)
theorem v45_28 (L : Nat) (xs : Nat → Int32) : zVal L xs 45 28 (.inl (i_c (.int 0) 29)) := zS_iconst d45_28 (by decide)
theorem v45_29 (L : Nat) (xs : Nat → Int32) : zVal L xs 45 29 (.inl (i_k [false, true, false, true, false] (i_bi (fun x y => x + y) 30))) := zS_k (zS_iadd d45_29)
theorem v45_30 (L : Nat) (xs : Nat → Int32) : zVal L xs 45 30 (.inl (i_is 3 31)) := zS_istore_n d45_30 rfl
theorem v45_31 (L : Nat) (xs : Nat → Int32) : zVal L xs 45 31 (.inl (i_in 4 1 34)) := zS_iinc d45_31 (by decide)
theorem v45_34 (L : Nat) (xs : Nat → Int32) : zVal L xs 45 34 (.inl (i_go 5)) := zS_goto d45_34 (by decide)
theorem v45_37 (L : Nat) (xs : Nat → Int32) : zVal L xs 45 37 (.inl (i_il 3 38)) := zS_iload_n d45_37 rfl
theorem v45_38 (L : Nat) (xs : Nat → Int32) : zVal L xs 45 38 (.inr (.inr 1)) := zr_1 d45_38 rfl
theorem vt45 (L : Nat) (xs : Nat → Int32) : zAll (fun x => zVal L xs 45 x.1 x.2) (tb45) := ⟨v45_0 L xs, v45_1 L xs, v45_2 L xs, v45_3 L xs, v45_5 L xs, v45_7 L xs, v45_8 L xs, v45_11 L xs, v45_12 L xs, v45_13 L xs, v45_16 L xs, v45_18 L xs, v45_19 L xs, v45_21 L xs, v45_24 L xs, v45_25 L xs, v45_28 L xs, v45_29 L xs, v45_30 L xs, v45_31 L xs, v45_34 L xs, v45_37 L xs, v45_38 L xs, trivial⟩
theorem d46_0 : decode (mB 46) 0 = .ok (.iload_n 1, 1) := by decide +kernel
theorem d46_1 : decode (mB 46) 1 = .ok (.invokestatic 81, 3) := by decide +kernel
theorem d46_4 : decode (mB 46) 4 = .ok (.ifCond .eq 15, 3) := by decide +kernel
theorem d46_7 : decode (mB 46) 7 = .ok (.aload_n 0, 1) := by decide +kernel
theorem d46_8 : decode (mB 46) 8 = .ok (.getfield 15, 3) := by decide +kernel
theorem d46_11 : decode (mB 46) 11 = .ok (.iload_n 1, 1) := by decide +kernel
theorem d46_12 : decode (mB 46) 12 = .ok (.bipush 97, 2) := by decide +kernel
theorem d46_14 : decode (mB 46) 14 = .ok (.isub, 1) := by decide +kernel
theorem d46_15 : decode (mB 46) 15 = .ok (.iaload, 1) := by decide +kernel
theorem d46_16 : decode (mB 46) 16 = .ok (.goto 4, 3) := by decide +kernel
theorem d46_19 : decode (mB 46) 19 = .ok (.iconst 3, 1) := by decide +kernel
theorem d46_20 : decode (mB 46) 20 = .ok (.ireturn, 1) := by decide +kernel
theorem v46_0 (L : Nat) (xs : Nat → Int32) : zVal L xs 46 0 (.inl (i_il 1 1)) := zS_iload_n d46_0 rfl
theorem v46_1 (L : Nat) (xs : Nat → Int32) : zVal L xs 46 1 (.inr (.inl (19, 1, 0))) := ⟨by decide +kernel, by decide +kernel, zc_staticN (host := "EditionGrid") d46_1 w437 (by decide +kernel) w436 w73 ⟨by decide +kernel, by decide +kernel, by decide +kernel⟩ (by decide) (by decide)⟩
theorem v46_4 (L : Nat) (xs : Nat → Int32) : zVal L xs 46 4 (.inl (i_f1 (fun x => decide (x = 0)) 19 7)) := zS_if_eq d46_4 (by decide)
theorem v46_7 (L : Nat) (xs : Nat → Int32) : zVal L xs 46 7 (.inl (i_al 0 8)) := zS_aload_n d46_7 rfl
theorem v46_8 (L : Nat) (xs : Nat → Int32) : zVal L xs 46 8 (.inl (i_gf 3 2 11)) := zS_getf d46_8 (zcl3) (by decide) zi3 w389
theorem v46_11 (L : Nat) (xs : Nat → Int32) : zVal L xs 46 11 (.inl (i_il 1 12)) := zS_iload_n d46_11 rfl
theorem v46_12 (L : Nat) (xs : Nat → Int32) : zVal L xs 46 12 (.inl (i_c (.int 97) 14)) := zS_bipush d46_12 (by decide)
theorem v46_14 (L : Nat) (xs : Nat → Int32) : zVal L xs 46 14 (.inl (i_bi (fun x y => x - y) 15)) := zS_isub d46_14
theorem v46_15 (L : Nat) (xs : Nat → Int32) : zVal L xs 46 15 (.inl (i_ga 0 16)) := zS_iald d46_15
theorem v46_16 (L : Nat) (xs : Nat → Int32) : zVal L xs 46 16 (.inl (i_go 20)) := zS_goto d46_16 (by decide)
theorem v46_19 (L : Nat) (xs : Nat → Int32) : zVal L xs 46 19 (.inl (i_c (.int 3) 20)) := zS_iconst d46_19 (by decide)
theorem v46_20 (L : Nat) (xs : Nat → Int32) : zVal L xs 46 20 (.inr (.inr 1)) := zr_1 d46_20 rfl
theorem vt46 (L : Nat) (xs : Nat → Int32) : zAll (fun x => zVal L xs 46 x.1 x.2) (tb46) := ⟨v46_0 L xs, v46_1 L xs, v46_4 L xs, v46_7 L xs, v46_8 L xs, v46_11 L xs, v46_12 L xs, v46_14 L xs, v46_15 L xs, v46_16 L xs, v46_19 L xs, v46_20 L xs, trivial⟩
theorem d47_0 : decode (mB 47) 0 = .ok (.aload_n 0, 1) := by decide +kernel
theorem d47_1 : decode (mB 47) 1 = .ok (.invokespecial 3, 3) := by decide +kernel
theorem d47_4 : decode (mB 47) 4 = .ok (.aload_n 0, 1) := by decide +kernel
theorem d47_5 : decode (mB 47) 5 = .ok (.iconst 4, 1) := by decide +kernel
theorem d47_6 : decode (mB 47) 6 = .ok (.newarray .int, 2) := by decide +kernel
theorem d47_8 : decode (mB 47) 8 = .ok (.putfield 9, 3) := by decide +kernel
theorem d47_11 : decode (mB 47) 11 = .ok (.return_, 1) := by decide +kernel
theorem v47_0 (L : Nat) (xs : Nat → Int32) : zVal L xs 47 0 (.inl (i_al 0 1)) := zS_aload_n d47_0 rfl
theorem v47_1 (L : Nat) (xs : Nat → Int32) : zVal L xs 47 1 (.inl (i_oi 4)) := zS_oinit d47_1 w114 w93 w94 (by decide)
theorem v47_4 (L : Nat) (xs : Nat → Int32) : zVal L xs 47 4 (.inl (i_al 0 5)) := zS_aload_n d47_4 rfl
theorem v47_5 (L : Nat) (xs : Nat → Int32) : zVal L xs 47 5 (.inl (i_c (.int 4) 6)) := zS_iconst d47_5 (by decide)
theorem v47_6 (L : Nat) (xs : Nat → Int32) : zVal L xs 47 6 (.inl (i_na (1, 4) 0 (.inl (fun _ => 0)) 8)) := zS_newa (ty := .int) d47_6 w150 rfl (by decide) (fun _ => rfl) (fun _ => rfl) (fun _ _ => rfl) (fun _ _ h => h)
theorem v47_8 (L : Nat) (xs : Nat → Int32) : zVal L xs 47 8 (.inl (i_pf 4 0 okR 11)) := zS_putfF (ty := .array .int) d47_8 (zcl4) (by decide) zi4 w115 zy4 zn4 (by decide +kernel) (by decide +kernel) (by decide +kernel) (by decide +kernel) (okA_ok (.int))
theorem v47_11 (L : Nat) (xs : Nat → Int32) : zVal L xs 47 11 (.inr (.inr 0)) := zr_0 d47_11 rfl
theorem vt47 (L : Nat) (xs : Nat → Int32) : zAll (fun x => zVal L xs 47 x.1 x.2) (tb47) := ⟨v47_0 L xs, v47_1 L xs, v47_4 L xs, v47_5 L xs, v47_6 L xs, v47_8 L xs, v47_11 L xs, trivial⟩
theorem d48_0 : decode (mB 48) 0 = .ok (.aload_n 0, 1) := by decide +kernel
theorem d48_1 : decode (mB 48) 1 = .ok (.iload_n 1, 1) := by decide +kernel
theorem d48_2 : decode (mB 48) 2 = .ok (.putfield 15, 3) := by decide +kernel
theorem d48_5 : decode (mB 48) 5 = .ok (.aload_n 0, 1) := by decide +kernel
theorem d48_6 : decode (mB 48) 6 = .ok (.iload_n 2, 1) := by decide +kernel
theorem d48_7 : decode (mB 48) 7 = .ok (.putfield 19, 3) := by decide +kernel
theorem d48_10 : decode (mB 48) 10 = .ok (.aload_n 0, 1) := by decide +kernel
theorem d48_11 : decode (mB 48) 11 = .ok (.iload_n 3, 1) := by decide +kernel
theorem d48_12 : decode (mB 48) 12 = .ok (.putfield 22, 3) := by decide +kernel
theorem d48_15 : decode (mB 48) 15 = .ok (.aload_n 0, 1) := by decide +kernel
theorem d48_16 : decode (mB 48) 16 = .ok (.iload 4, 2) := by decide +kernel
theorem d48_18 : decode (mB 48) 18 = .ok (.putfield 25, 3) := by decide +kernel
theorem d48_21 : decode (mB 48) 21 = .ok (.aload_n 0, 1) := by decide +kernel
theorem d48_22 : decode (mB 48) 22 = .ok (.iload 5, 2) := by decide +kernel
theorem d48_24 : decode (mB 48) 24 = .ok (.putfield 28, 3) := by decide +kernel
theorem d48_27 : decode (mB 48) 27 = .ok (.return_, 1) := by decide +kernel
theorem v48_0 (L : Nat) (xs : Nat → Int32) : zVal L xs 48 0 (.inl (i_al 0 1)) := zS_aload_n d48_0 rfl
theorem v48_1 (L : Nat) (xs : Nat → Int32) : zVal L xs 48 1 (.inl (i_il 1 2)) := zS_iload_n d48_1 rfl
theorem v48_2 (L : Nat) (xs : Nat → Int32) : zVal L xs 48 2 (.inl (i_pf 4 1 okI 5)) := zS_putf (ty := .int) d48_2 (zcl4) (by decide) zi4 w117 zy4 zn4 (by decide +kernel) (by decide +kernel) okI_ok
theorem v48_5 (L : Nat) (xs : Nat → Int32) : zVal L xs 48 5 (.inl (i_al 0 6)) := zS_aload_n d48_5 rfl
theorem v48_6 (L : Nat) (xs : Nat → Int32) : zVal L xs 48 6 (.inl (i_il 2 7)) := zS_iload_n d48_6 rfl
theorem v48_7 (L : Nat) (xs : Nat → Int32) : zVal L xs 48 7 (.inl (i_pf 4 2 okI 10)) := zS_putf (ty := .int) d48_7 (zcl4) (by decide) zi4 w120 zy4 zn4 (by decide +kernel) (by decide +kernel) okI_ok
theorem v48_10 (L : Nat) (xs : Nat → Int32) : zVal L xs 48 10 (.inl (i_al 0 11)) := zS_aload_n d48_10 rfl
theorem v48_11 (L : Nat) (xs : Nat → Int32) : zVal L xs 48 11 (.inl (i_il 3 12)) := zS_iload_n d48_11 rfl
theorem v48_12 (L : Nat) (xs : Nat → Int32) : zVal L xs 48 12 (.inl (i_pf 4 3 okI 15)) := zS_putf (ty := .int) d48_12 (zcl4) (by decide) zi4 w123 zy4 zn4 (by decide +kernel) (by decide +kernel) okI_ok
theorem v48_15 (L : Nat) (xs : Nat → Int32) : zVal L xs 48 15 (.inl (i_al 0 16)) := zS_aload_n d48_15 rfl
theorem v48_16 (L : Nat) (xs : Nat → Int32) : zVal L xs 48 16 (.inl (i_il 4 18)) := zS_iload d48_16
theorem v48_18 (L : Nat) (xs : Nat → Int32) : zVal L xs 48 18 (.inl (i_pf 4 4 okI 21)) := zS_putf (ty := .int) d48_18 (zcl4) (by decide) zi4 w125 zy4 zn4 (by decide +kernel) (by decide +kernel) okI_ok
theorem v48_21 (L : Nat) (xs : Nat → Int32) : zVal L xs 48 21 (.inl (i_al 0 22)) := zS_aload_n d48_21 rfl
theorem v48_22 (L : Nat) (xs : Nat → Int32) : zVal L xs 48 22 (.inl (i_il 5 24)) := zS_iload d48_22
theorem v48_24 (L : Nat) (xs : Nat → Int32) : zVal L xs 48 24 (.inl (i_pf 4 5 okI 27)) := zS_putf (ty := .int) d48_24 (zcl4) (by decide) zi4 w127 zy4 zn4 (by decide +kernel) (by decide +kernel) okI_ok
theorem v48_27 (L : Nat) (xs : Nat → Int32) : zVal L xs 48 27 (.inr (.inr 0)) := zr_0 d48_27 rfl
theorem vt48 (L : Nat) (xs : Nat → Int32) : zAll (fun x => zVal L xs 48 x.1 x.2) (tb48) := ⟨v48_0 L xs, v48_1 L xs, v48_2 L xs, v48_5 L xs, v48_6 L xs, v48_7 L xs, v48_10 L xs, v48_11 L xs, v48_12 L xs, v48_15 L xs, v48_16 L xs, v48_18 L xs, v48_21 L xs, v48_22 L xs, v48_24 L xs, v48_27 L xs, trivial⟩
theorem d49_0 : decode (mB 49) 0 = .ok (.aload_n 0, 1) := by decide +kernel
theorem d49_1 : decode (mB 49) 1 = .ok (.iload_n 1, 1) := by decide +kernel
theorem d49_2 : decode (mB 49) 2 = .ok (.putfield 31, 3) := by decide +kernel
theorem d49_5 : decode (mB 49) 5 = .ok (.aload_n 0, 1) := by decide +kernel
theorem d49_6 : decode (mB 49) 6 = .ok (.iload_n 2, 1) := by decide +kernel
theorem d49_7 : decode (mB 49) 7 = .ok (.iload_n 1, 1) := by decide +kernel
theorem d49_8 : decode (mB 49) 8 = .ok (.isub, 1) := by decide +kernel
theorem d49_9 : decode (mB 49) 9 = .ok (.putfield 34, 3) := by decide +kernel
theorem d49_12 : decode (mB 49) 12 = .ok (.return_, 1) := by decide +kernel
theorem v49_0 (L : Nat) (xs : Nat → Int32) : zVal L xs 49 0 (.inl (i_al 0 1)) := zS_aload_n d49_0 rfl
theorem v49_1 (L : Nat) (xs : Nat → Int32) : zVal L xs 49 1 (.inl (i_il 1 2)) := zS_iload_n d49_1 rfl
theorem v49_2 (L : Nat) (xs : Nat → Int32) : zVal L xs 49 2 (.inl (i_pf 4 6 okI 5)) := zS_putf (ty := .int) d49_2 (zcl4) (by decide) zi4 w129 zy4 zn4 (by decide +kernel) (by decide +kernel) okI_ok
theorem v49_5 (L : Nat) (xs : Nat → Int32) : zVal L xs 49 5 (.inl (i_al 0 6)) := zS_aload_n d49_5 rfl
theorem v49_6 (L : Nat) (xs : Nat → Int32) : zVal L xs 49 6 (.inl (i_il 2 7)) := zS_iload_n d49_6 rfl
theorem v49_7 (L : Nat) (xs : Nat → Int32) : zVal L xs 49 7 (.inl (i_il 1 8)) := zS_iload_n d49_7 rfl
theorem v49_8 (L : Nat) (xs : Nat → Int32) : zVal L xs 49 8 (.inl (i_bi (fun x y => x - y) 9)) := zS_isub d49_8
theorem v49_9 (L : Nat) (xs : Nat → Int32) : zVal L xs 49 9 (.inl (i_pf 4 7 okI 12)) := zS_putf (ty := .int) d49_9 (zcl4) (by decide) zi4 w131 zy4 zn4 (by decide +kernel) (by decide +kernel) okI_ok
theorem v49_12 (L : Nat) (xs : Nat → Int32) : zVal L xs 49 12 (.inr (.inr 0)) := zr_0 d49_12 rfl
theorem vt49 (L : Nat) (xs : Nat → Int32) : zAll (fun x => zVal L xs 49 x.1 x.2) (tb49) := ⟨v49_0 L xs, v49_1 L xs, v49_2 L xs, v49_5 L xs, v49_6 L xs, v49_7 L xs, v49_8 L xs, v49_9 L xs, v49_12 L xs, trivial⟩
theorem d50_0 : decode (mB 50) 0 = .ok (.iload_n 1, 1) := by decide +kernel
theorem d50_1 : decode (mB 50) 1 = .ok (.tableswitch 78 0 6 #[43, 48, 53, 58, 63, 68, 73], 43) := by decide +kernel
theorem d50_44 : decode (mB 50) 44 = .ok (.aload_n 0, 1) := by decide +kernel
theorem d50_45 : decode (mB 50) 45 = .ok (.getfield 15, 3) := by decide +kernel
theorem d50_48 : decode (mB 50) 48 = .ok (.ireturn, 1) := by decide +kernel
theorem d50_49 : decode (mB 50) 49 = .ok (.aload_n 0, 1) := by decide +kernel
theorem d50_50 : decode (mB 50) 50 = .ok (.getfield 19, 3) := by decide +kernel
theorem d50_53 : decode (mB 50) 53 = .ok (.ireturn, 1) := by decide +kernel
theorem d50_54 : decode (mB 50) 54 = .ok (.aload_n 0, 1) := by decide +kernel
theorem d50_55 : decode (mB 50) 55 = .ok (.getfield 22, 3) := by decide +kernel
theorem d50_58 : decode (mB 50) 58 = .ok (.ireturn, 1) := by decide +kernel
theorem d50_59 : decode (mB 50) 59 = .ok (.aload_n 0, 1) := by decide +kernel
theorem d50_60 : decode (mB 50) 60 = .ok (.getfield 25, 3) := by decide +kernel
theorem d50_63 : decode (mB 50) 63 = .ok (.ireturn, 1) := by decide +kernel
theorem d50_64 : decode (mB 50) 64 = .ok (.aload_n 0, 1) := by decide +kernel
theorem d50_65 : decode (mB 50) 65 = .ok (.getfield 28, 3) := by decide +kernel
theorem d50_68 : decode (mB 50) 68 = .ok (.ireturn, 1) := by decide +kernel
theorem d50_69 : decode (mB 50) 69 = .ok (.aload_n 0, 1) := by decide +kernel
theorem d50_70 : decode (mB 50) 70 = .ok (.getfield 31, 3) := by decide +kernel
theorem d50_73 : decode (mB 50) 73 = .ok (.ireturn, 1) := by decide +kernel
theorem d50_74 : decode (mB 50) 74 = .ok (.aload_n 0, 1) := by decide +kernel
theorem d50_75 : decode (mB 50) 75 = .ok (.getfield 34, 3) := by decide +kernel
theorem d50_78 : decode (mB 50) 78 = .ok (.ireturn, 1) := by decide +kernel
theorem d50_79 : decode (mB 50) 79 = .ok (.iload_n 1, 1) := by decide +kernel
theorem d50_80 : decode (mB 50) 80 = .ok (.bipush 7, 2) := by decide +kernel
theorem d50_82 : decode (mB 50) 82 = .ok (.if_icmp .lt 21, 3) := by decide +kernel
theorem d50_85 : decode (mB 50) 85 = .ok (.iload_n 1, 1) := by decide +kernel
theorem d50_86 : decode (mB 50) 86 = .ok (.bipush 11, 2) := by decide +kernel
theorem d50_88 : decode (mB 50) 88 = .ok (.if_icmp .ge 15, 3) := by decide +kernel
theorem d50_91 : decode (mB 50) 91 = .ok (.aload_n 0, 1) := by decide +kernel
theorem d50_92 : decode (mB 50) 92 = .ok (.getfield 9, 3) := by decide +kernel
theorem d50_95 : decode (mB 50) 95 = .ok (.iload_n 1, 1) := by decide +kernel
theorem d50_96 : decode (mB 50) 96 = .ok (.bipush 7, 2) := by decide +kernel
theorem d50_98 : decode (mB 50) 98 = .ok (.isub, 1) := by decide +kernel
theorem d50_99 : decode (mB 50) 99 = .ok (.iaload, 1) := by decide +kernel
theorem d50_100 : decode (mB 50) 100 = .ok (.goto 4, 3) := by decide +kernel
theorem d50_103 : decode (mB 50) 103 = .ok (.iconst (-1), 1) := by decide +kernel
theorem d50_104 : decode (mB 50) 104 = .ok (.ireturn, 1) := by decide +kernel
theorem v50_0 (L : Nat) (xs : Nat → Int32) : zVal L xs 50 0 (.inl (i_il 1 1)) := zS_iload_n d50_0 rfl
theorem v50_1 (L : Nat) (xs : Nat → Int32) : zVal L xs 50 1 (.inl (i_ts 0 6 [44, 49, 54, 59, 64, 69, 74] 79)) := zS_tsw d50_1 (by decide) (by decide +kernel)
theorem v50_44 (L : Nat) (xs : Nat → Int32) : zVal L xs 50 44 (.inl (i_al 0 45)) := zS_aload_n d50_44 rfl
theorem v50_45 (L : Nat) (xs : Nat → Int32) : zVal L xs 50 45 (.inl (i_gf 4 1 48)) := zS_getf d50_45 (zcl4) (by decide) zi4 w117
theorem v50_48 (L : Nat) (xs : Nat → Int32) : zVal L xs 50 48 (.inr (.inr 1)) := zr_1 d50_48 rfl
theorem v50_49 (L : Nat) (xs : Nat → Int32) : zVal L xs 50 49 (.inl (i_al 0 50)) := zS_aload_n d50_49 rfl
theorem v50_50 (L : Nat) (xs : Nat → Int32) : zVal L xs 50 50 (.inl (i_gf 4 2 53)) := zS_getf d50_50 (zcl4) (by decide) zi4 w120
theorem v50_53 (L : Nat) (xs : Nat → Int32) : zVal L xs 50 53 (.inr (.inr 1)) := zr_1 d50_53 rfl
theorem v50_54 (L : Nat) (xs : Nat → Int32) : zVal L xs 50 54 (.inl (i_al 0 55)) := zS_aload_n d50_54 rfl
theorem v50_55 (L : Nat) (xs : Nat → Int32) : zVal L xs 50 55 (.inl (i_gf 4 3 58)) := zS_getf d50_55 (zcl4) (by decide) zi4 w123
theorem v50_58 (L : Nat) (xs : Nat → Int32) : zVal L xs 50 58 (.inr (.inr 1)) := zr_1 d50_58 rfl
theorem v50_59 (L : Nat) (xs : Nat → Int32) : zVal L xs 50 59 (.inl (i_al 0 60)) := zS_aload_n d50_59 rfl
theorem v50_60 (L : Nat) (xs : Nat → Int32) : zVal L xs 50 60 (.inl (i_gf 4 4 63)) := zS_getf d50_60 (zcl4) (by decide) zi4 w125
theorem v50_63 (L : Nat) (xs : Nat → Int32) : zVal L xs 50 63 (.inr (.inr 1)) := zr_1 d50_63 rfl
theorem v50_64 (L : Nat) (xs : Nat → Int32) : zVal L xs 50 64 (.inl (i_al 0 65)) := zS_aload_n d50_64 rfl
theorem v50_65 (L : Nat) (xs : Nat → Int32) : zVal L xs 50 65 (.inl (i_gf 4 5 68)) := zS_getf d50_65 (zcl4) (by decide) zi4 w127
theorem v50_68 (L : Nat) (xs : Nat → Int32) : zVal L xs 50 68 (.inr (.inr 1)) := zr_1 d50_68 rfl
theorem v50_69 (L : Nat) (xs : Nat → Int32) : zVal L xs 50 69 (.inl (i_al 0 70)) := zS_aload_n d50_69 rfl
theorem v50_70 (L : Nat) (xs : Nat → Int32) : zVal L xs 50 70 (.inl (i_gf 4 6 73)) := zS_getf d50_70 (zcl4) (by decide) zi4 w129
theorem v50_73 (L : Nat) (xs : Nat → Int32) : zVal L xs 50 73 (.inr (.inr 1)) := zr_1 d50_73 rfl
theorem v50_74 (L : Nat) (xs : Nat → Int32) : zVal L xs 50 74 (.inl (i_al 0 75)) := zS_aload_n d50_74 rfl
theorem v50_75 (L : Nat) (xs : Nat → Int32) : zVal L xs 50 75 (.inl (i_gf 4 7 78)) := zS_getf d50_75 (zcl4) (by decide) zi4 w131
theorem v50_78 (L : Nat) (xs : Nat → Int32) : zVal L xs 50 78 (.inr (.inr 1)) := zr_1 d50_78 rfl
theorem v50_79 (L : Nat) (xs : Nat → Int32) : zVal L xs 50 79 (.inl (i_il 1 80)) := zS_iload_n d50_79 rfl
theorem v50_80 (L : Nat) (xs : Nat → Int32) : zVal L xs 50 80 (.inl (i_c (.int 7) 82)) := zS_bipush d50_80 (by decide)
theorem v50_82 (L : Nat) (xs : Nat → Int32) : zVal L xs 50 82 (.inl (i_f2 (fun x y => decide (x < y)) 103 85)) := zS_icmp_lt d50_82 (by decide)
theorem v50_85 (L : Nat) (xs : Nat → Int32) : zVal L xs 50 85 (.inl (i_il 1 86)) := zS_iload_n d50_85 rfl
theorem v50_86 (L : Nat) (xs : Nat → Int32) : zVal L xs 50 86 (.inl (i_c (.int 11) 88)) := zS_bipush d50_86 (by decide)
theorem v50_88 (L : Nat) (xs : Nat → Int32) : zVal L xs 50 88 (.inl (i_f2 (fun x y => decide (y ≤ x)) 103 91)) := zS_icmp_ge d50_88 (by decide)
theorem v50_91 (L : Nat) (xs : Nat → Int32) : zVal L xs 50 91 (.inl (i_al 0 92)) := zS_aload_n d50_91 rfl
theorem v50_92 (L : Nat) (xs : Nat → Int32) : zVal L xs 50 92 (.inl (i_gf 4 0 95)) := zS_getf d50_92 (zcl4) (by decide) zi4 w115
theorem v50_95 (L : Nat) (xs : Nat → Int32) : zVal L xs 50 95 (.inl (i_il 1 96)) := zS_iload_n d50_95 rfl
theorem v50_96 (L : Nat) (xs : Nat → Int32) : zVal L xs 50 96 (.inl (i_c (.int 7) 98)) := zS_bipush d50_96 (by decide)
theorem v50_98 (L : Nat) (xs : Nat → Int32) : zVal L xs 50 98 (.inl (i_bi (fun x y => x - y) 99)) := zS_isub d50_98
theorem v50_99 (L : Nat) (xs : Nat → Int32) : zVal L xs 50 99 (.inl (i_ga 0 100)) := zS_iald d50_99
theorem v50_100 (L : Nat) (xs : Nat → Int32) : zVal L xs 50 100 (.inl (i_go 104)) := zS_goto d50_100 (by decide)
theorem v50_103 (L : Nat) (xs : Nat → Int32) : zVal L xs 50 103 (.inl (i_k [true, true] (i_c (.int (-1)) 104))) := zS_k (zS_iconst d50_103 (by decide))
theorem v50_104 (L : Nat) (xs : Nat → Int32) : zVal L xs 50 104 (.inr (.inr 1)) := zr_1 d50_104 rfl
theorem vt50 (L : Nat) (xs : Nat → Int32) : zAll (fun x => zVal L xs 50 x.1 x.2) (tb50) := ⟨v50_0 L xs, v50_1 L xs, v50_44 L xs, v50_45 L xs, v50_48 L xs, v50_49 L xs, v50_50 L xs, v50_53 L xs, v50_54 L xs, v50_55 L xs, v50_58 L xs, v50_59 L xs, v50_60 L xs, v50_63 L xs, v50_64 L xs, v50_65 L xs, v50_68 L xs, v50_69 L xs, v50_70 L xs, v50_73 L xs, v50_74 L xs, v50_75 L xs, v50_78 L xs, v50_79 L xs, v50_80 L xs, v50_82 L xs, v50_85 L xs, v50_86 L xs, v50_88 L xs, v50_91 L xs, v50_92 L xs, v50_95 L xs, v50_96 L xs, v50_98 L xs, v50_99 L xs, v50_100 L xs, v50_103 L xs, v50_104 L xs, trivial⟩
theorem d51_0 : decode (mB 51) 0 = .ok (.aload_n 0, 1) := by decide +kernel
theorem d51_1 : decode (mB 51) 1 = .ok (.invokespecial 3, 3) := by decide +kernel
theorem d51_4 : decode (mB 51) 4 = .ok (.aload_n 0, 1) := by decide +kernel
theorem d51_5 : decode (mB 51) 5 = .ok (.bipush 20, 2) := by decide +kernel
theorem d51_7 : decode (mB 51) 7 = .ok (.newarray .long, 2) := by decide +kernel
theorem d51_9 : decode (mB 51) 9 = .ok (.putfield 11, 3) := by decide +kernel
theorem d51_12 : decode (mB 51) 12 = .ok (.aload_n 0, 1) := by decide +kernel
theorem d51_13 : decode (mB 51) 13 = .ok (.bipush 20, 2) := by decide +kernel
theorem d51_15 : decode (mB 51) 15 = .ok (.newarray .long, 2) := by decide +kernel
theorem d51_17 : decode (mB 51) 17 = .ok (.putfield 15, 3) := by decide +kernel
theorem d51_20 : decode (mB 51) 20 = .ok (.aload_n 0, 1) := by decide +kernel
theorem d51_21 : decode (mB 51) 21 = .ok (.bipush 20, 2) := by decide +kernel
theorem d51_23 : decode (mB 51) 23 = .ok (.newarray .int, 2) := by decide +kernel
theorem d51_25 : decode (mB 51) 25 = .ok (.putfield 18, 3) := by decide +kernel
theorem d51_28 : decode (mB 51) 28 = .ok (.aload_n 0, 1) := by decide +kernel
theorem d51_29 : decode (mB 51) 29 = .ok (.bipush 15, 2) := by decide +kernel
theorem d51_31 : decode (mB 51) 31 = .ok (.newarray .int, 2) := by decide +kernel
theorem d51_33 : decode (mB 51) 33 = .ok (.putfield 22, 3) := by decide +kernel
theorem d51_36 : decode (mB 51) 36 = .ok (.return_, 1) := by decide +kernel
theorem v51_0 (L : Nat) (xs : Nat → Int32) : zVal L xs 51 0 (.inl (i_al 0 1)) := zS_aload_n d51_0 rfl
theorem v51_1 (L : Nat) (xs : Nat → Int32) : zVal L xs 51 1 (.inl (i_oi 4)) := zS_oinit d51_1 w283 w93 w94 (by decide)
theorem v51_4 (L : Nat) (xs : Nat → Int32) : zVal L xs 51 4 (.inl (i_al 0 5)) := zS_aload_n d51_4 rfl
theorem v51_5 (L : Nat) (xs : Nat → Int32) : zVal L xs 51 5 (.inl (i_c (.int 20) 7)) := zS_bipush d51_5 (by decide)
theorem v51_7 (L : Nat) (xs : Nat → Int32) : zVal L xs 51 7 (.inl (i_na (4, 75) 1 (.inr (.inl (fun _ => 0))) 9)) := zS_newa (ty := .long) d51_7 w300 rfl (by decide) (fun _ => rfl) (fun _ => rfl) (fun _ _ => rfl) (fun _ _ h => h)
theorem v51_9 (L : Nat) (xs : Nat → Int32) : zVal L xs 51 9 (.inl (i_pf 5 0 okR 12)) := zS_putfF (ty := .array .long) d51_9 (zcl5) (by decide) zi5 w284 zy5 zn5 (by decide +kernel) (by decide +kernel) (by decide +kernel) (by decide +kernel) (okA_ok (.long))
theorem v51_12 (L : Nat) (xs : Nat → Int32) : zVal L xs 51 12 (.inl (i_al 0 13)) := zS_aload_n d51_12 rfl
theorem v51_13 (L : Nat) (xs : Nat → Int32) : zVal L xs 51 13 (.inl (i_c (.int 20) 15)) := zS_bipush d51_13 (by decide)
theorem v51_15 (L : Nat) (xs : Nat → Int32) : zVal L xs 51 15 (.inl (i_na (4, 75) 1 (.inr (.inl (fun _ => 0))) 17)) := zS_newa (ty := .long) d51_15 w300 rfl (by decide) (fun _ => rfl) (fun _ => rfl) (fun _ _ => rfl) (fun _ _ h => h)
theorem v51_17 (L : Nat) (xs : Nat → Int32) : zVal L xs 51 17 (.inl (i_pf 5 1 okR 20)) := zS_putfF (ty := .array .long) d51_17 (zcl5) (by decide) zi5 w285 zy5 zn5 (by decide +kernel) (by decide +kernel) (by decide +kernel) (by decide +kernel) (okA_ok (.long))
theorem v51_20 (L : Nat) (xs : Nat → Int32) : zVal L xs 51 20 (.inl (i_al 0 21)) := zS_aload_n d51_20 rfl
theorem v51_21 (L : Nat) (xs : Nat → Int32) : zVal L xs 51 21 (.inl (i_c (.int 20) 23)) := zS_bipush d51_21 (by decide)
theorem v51_23 (L : Nat) (xs : Nat → Int32) : zVal L xs 51 23 (.inl (i_na (4, 75) 0 (.inl (fun _ => 0)) 25)) := zS_newa (ty := .int) d51_23 w150 rfl (by decide) (fun _ => rfl) (fun _ => rfl) (fun _ _ => rfl) (fun _ _ h => h)
theorem v51_25 (L : Nat) (xs : Nat → Int32) : zVal L xs 51 25 (.inl (i_pf 5 2 okR 28)) := zS_putfF (ty := .array .int) d51_25 (zcl5) (by decide) zi5 w286 zy5 zn5 (by decide +kernel) (by decide +kernel) (by decide +kernel) (by decide +kernel) (okA_ok (.int))
theorem v51_28 (L : Nat) (xs : Nat → Int32) : zVal L xs 51 28 (.inl (i_al 0 29)) := zS_aload_n d51_28 rfl
theorem v51_29 (L : Nat) (xs : Nat → Int32) : zVal L xs 51 29 (.inl (i_c (.int 15) 31)) := zS_bipush d51_29 (by decide)
theorem v51_31 (L : Nat) (xs : Nat → Int32) : zVal L xs 51 31 (.inl (i_na (4, 75) 0 (.inl (fun _ => 0)) 33)) := zS_newa (ty := .int) d51_31 w150 rfl (by decide) (fun _ => rfl) (fun _ => rfl) (fun _ _ => rfl) (fun _ _ h => h)
theorem v51_33 (L : Nat) (xs : Nat → Int32) : zVal L xs 51 33 (.inl (i_pf 5 3 okR 36)) := zS_putfF (ty := .array .int) d51_33 (zcl5) (by decide) zi5 w287 zy5 zn5 (by decide +kernel) (by decide +kernel) (by decide +kernel) (by decide +kernel) (okA_ok (.int))
theorem v51_36 (L : Nat) (xs : Nat → Int32) : zVal L xs 51 36 (.inr (.inr 0)) := zr_0 d51_36 rfl
theorem vt51 (L : Nat) (xs : Nat → Int32) : zAll (fun x => zVal L xs 51 x.1 x.2) (tb51) := ⟨v51_0 L xs, v51_1 L xs, v51_4 L xs, v51_5 L xs, v51_7 L xs, v51_9 L xs, v51_12 L xs, v51_13 L xs, v51_15 L xs, v51_17 L xs, v51_20 L xs, v51_21 L xs, v51_23 L xs, v51_25 L xs, v51_28 L xs, v51_29 L xs, v51_31 L xs, v51_33 L xs, v51_36 L xs, trivial⟩
theorem d52_0 : decode (mB 52) 0 = .ok (.lload_n 1, 1) := by decide +kernel
theorem d52_1 : decode (mB 52) 1 = .ok (.iload_n 3, 1) := by decide +kernel
theorem d52_2 : decode (mB 52) 2 = .ok (.invokestatic 25, 3) := by decide +kernel
theorem d52_5 : decode (mB 52) 5 = .ok (.ifCond .eq 14, 3) := by decide +kernel
theorem d52_8 : decode (mB 52) 8 = .ok (.lload 4, 2) := by decide +kernel
theorem d52_10 : decode (mB 52) 10 = .ok (.iload_n 3, 1) := by decide +kernel
theorem d52_11 : decode (mB 52) 11 = .ok (.iconst 1, 1) := by decide +kernel
theorem d52_12 : decode (mB 52) 12 = .ok (.iadd, 1) := by decide +kernel
theorem d52_13 : decode (mB 52) 13 = .ok (.invokestatic 29, 3) := by decide +kernel
theorem d52_16 : decode (mB 52) 16 = .ok (.ifCond .ne 5, 3) := by decide +kernel
theorem d52_19 : decode (mB 52) 19 = .ok (.iconst (-1), 1) := by decide +kernel
theorem d52_20 : decode (mB 52) 20 = .ok (.ireturn, 1) := by decide +kernel
theorem d52_21 : decode (mB 52) 21 = .ok (.lload_n 1, 1) := by decide +kernel
theorem d52_22 : decode (mB 52) 22 = .ok (.iload_n 3, 1) := by decide +kernel
theorem d52_23 : decode (mB 52) 23 = .ok (.invokestatic 32, 3) := by decide +kernel
theorem d52_26 : decode (mB 52) 26 = .ok (.land, 1) := by decide +kernel
theorem d52_27 : decode (mB 52) 27 = .ok (.lstore 6, 2) := by decide +kernel
theorem d52_29 : decode (mB 52) 29 = .ok (.aload_n 0, 1) := by decide +kernel
theorem d52_30 : decode (mB 52) 30 = .ok (.lload 6, 2) := by decide +kernel
theorem d52_32 : decode (mB 52) 32 = .ok (.invokevirtual 36, 3) := by decide +kernel
theorem d52_35 : decode (mB 52) 35 = .ok (.istore 8, 2) := by decide +kernel
theorem d52_37 : decode (mB 52) 37 = .ok (.iload 8, 2) := by decide +kernel
theorem d52_39 : decode (mB 52) 39 = .ok (.bipush 20, 2) := by decide +kernel
theorem d52_41 : decode (mB 52) 41 = .ok (.if_icmp .lt 6, 3) := by decide +kernel
theorem d52_44 : decode (mB 52) 44 = .ok (.bipush (-2), 2) := by decide +kernel
theorem d52_46 : decode (mB 52) 46 = .ok (.ireturn, 1) := by decide +kernel
theorem d52_47 : decode (mB 52) 47 = .ok (.aload_n 0, 1) := by decide +kernel
theorem d52_48 : decode (mB 52) 48 = .ok (.getfield 11, 3) := by decide +kernel
theorem d52_51 : decode (mB 52) 51 = .ok (.iload 8, 2) := by decide +kernel
theorem d52_53 : decode (mB 52) 53 = .ok (.lload 6, 2) := by decide +kernel
theorem d52_55 : decode (mB 52) 55 = .ok (.lastore, 1) := by decide +kernel
theorem d52_56 : decode (mB 52) 56 = .ok (.aload_n 0, 1) := by decide +kernel
theorem d52_57 : decode (mB 52) 57 = .ok (.getfield 18, 3) := by decide +kernel
theorem d52_60 : decode (mB 52) 60 = .ok (.iload 8, 2) := by decide +kernel
theorem d52_62 : decode (mB 52) 62 = .ok (.iload_n 3, 1) := by decide +kernel
theorem d52_63 : decode (mB 52) 63 = .ok (.iastore, 1) := by decide +kernel
theorem d52_64 : decode (mB 52) 64 = .ok (.aload_n 0, 1) := by decide +kernel
theorem d52_65 : decode (mB 52) 65 = .ok (.getfield 15, 3) := by decide +kernel
theorem d52_68 : decode (mB 52) 68 = .ok (.iload 8, 2) := by decide +kernel
theorem d52_70 : decode (mB 52) 70 = .ok (.lload 4, 2) := by decide +kernel
theorem d52_72 : decode (mB 52) 72 = .ok (.lastore, 1) := by decide +kernel
theorem d52_73 : decode (mB 52) 73 = .ok (.aload_n 0, 1) := by decide +kernel
theorem d52_74 : decode (mB 52) 74 = .ok (.aload_n 0, 1) := by decide +kernel
theorem d52_75 : decode (mB 52) 75 = .ok (.getfield 40, 3) := by decide +kernel
theorem d52_78 : decode (mB 52) 78 = .ok (.iload 8, 2) := by decide +kernel
theorem d52_80 : decode (mB 52) 80 = .ok (.iconst 1, 1) := by decide +kernel
theorem d52_81 : decode (mB 52) 81 = .ok (.iadd, 1) := by decide +kernel
theorem d52_82 : decode (mB 52) 82 = .ok (.invokestatic 44, 3) := by decide +kernel
theorem d52_85 : decode (mB 52) 85 = .ok (.putfield 40, 3) := by decide +kernel
theorem d52_88 : decode (mB 52) 88 = .ok (.aload_n 0, 1) := by decide +kernel
theorem d52_89 : decode (mB 52) 89 = .ok (.getfield 40, 3) := by decide +kernel
theorem d52_92 : decode (mB 52) 92 = .ok (.ireturn, 1) := by decide +kernel
theorem v52_0 (L : Nat) (xs : Nat → Int32) : zVal L xs 52 0 (.inl (i_ll 1 1)) := zS_lload_n d52_0 rfl
theorem v52_1 (L : Nat) (xs : Nat → Int32) : zVal L xs 52 1 (.inl (i_il 3 2)) := zS_iload_n d52_1 rfl
theorem v52_2 (L : Nat) (xs : Nat → Int32) : zVal L xs 52 2 (.inr (.inl (56, 2, 0))) := ⟨by decide +kernel, by decide +kernel, zc_static d52_2 w448 w446 w447 w79 ⟨by decide +kernel, by decide +kernel, by decide +kernel⟩ (by decide) (by decide)⟩
theorem v52_5 (L : Nat) (xs : Nat → Int32) : zVal L xs 52 5 (.inl (i_f1 (fun x => decide (x = 0)) 19 8)) := zS_if_eq d52_5 (by decide)
theorem v52_8 (L : Nat) (xs : Nat → Int32) : zVal L xs 52 8 (.inl (i_ll 4 10)) := zS_lload d52_8
theorem v52_10 (L : Nat) (xs : Nat → Int32) : zVal L xs 52 10 (.inl (i_il 3 11)) := zS_iload_n d52_10 rfl
theorem v52_11 (L : Nat) (xs : Nat → Int32) : zVal L xs 52 11 (.inl (i_c (.int 1) 12)) := zS_iconst d52_11 (by decide)
theorem v52_12 (L : Nat) (xs : Nat → Int32) : zVal L xs 52 12 (.inl (i_bi (fun x y => x + y) 13)) := zS_iadd d52_12
theorem v52_13 (L : Nat) (xs : Nat → Int32) : zVal L xs 52 13 (.inr (.inl (57, 2, 0))) := ⟨by decide +kernel, by decide +kernel, zc_static d52_13 w455 w453 w454 w79 ⟨by decide +kernel, by decide +kernel, by decide +kernel⟩ (by decide) (by decide)⟩
theorem v52_16 (L : Nat) (xs : Nat → Int32) : zVal L xs 52 16 (.inl (i_f1 (fun x => decide (¬ x = 0)) 21 19)) := zS_if_ne d52_16 (by decide)
theorem v52_19 (L : Nat) (xs : Nat → Int32) : zVal L xs 52 19 (.inl (i_k [true, true, true, true, true, true, true, true, true] (i_c (.int (-1)) 20))) := zS_k (zS_iconst d52_19 (by decide))
theorem v52_20 (L : Nat) (xs : Nat → Int32) : zVal L xs 52 20 (.inr (.inr 1)) := zr_1 d52_20 rfl
theorem v52_21 (L : Nat) (xs : Nat → Int32) : zVal L xs 52 21 (.inl (i_ll 1 22)) := zS_lload_n d52_21 rfl
theorem v52_22 (L : Nat) (xs : Nat → Int32) : zVal L xs 52 22 (.inl (i_il 3 23)) := zS_iload_n d52_22 rfl
theorem v52_23 (L : Nat) (xs : Nat → Int32) : zVal L xs 52 23 (.inr (.inl (58, 1, 0))) := ⟨by decide +kernel, by decide +kernel, zc_static d52_23 w458 w456 w457 w79 ⟨by decide +kernel, by decide +kernel, by decide +kernel⟩ (by decide) (by decide)⟩
theorem v52_26 (L : Nat) (xs : Nat → Int32) : zVal L xs 52 26 (.inl (i_bl (fun x y => x &&& y) 27)) := zS_land d52_26
theorem v52_27 (L : Nat) (xs : Nat → Int32) : zVal L xs 52 27 (.inl (i_ls 6 29)) := zS_lstore d52_27
theorem v52_29 (L : Nat) (xs : Nat → Int32) : zVal L xs 52 29 (.inl (i_al 0 30)) := zS_aload_n d52_29 rfl
theorem v52_30 (L : Nat) (xs : Nat → Int32) : zVal L xs 52 30 (.inl (i_ll 6 32)) := zS_lload d52_30
theorem v52_32 (L : Nat) (xs : Nat → Int32) : zVal L xs 52 32 (.inr (.inl (55, 2, 6))) := ⟨by decide +kernel, by decide +kernel, zc_virt d52_32 zcl5 w462 w459 w461 w0 w79 ⟨by decide +kernel, by decide +kernel, by decide +kernel⟩ (by decide) (by decide)⟩
theorem v52_35 (L : Nat) (xs : Nat → Int32) : zVal L xs 52 35 (.inl (i_is 8 37)) := zS_istore d52_35
theorem v52_37 (L : Nat) (xs : Nat → Int32) : zVal L xs 52 37 (.inl (i_il 8 39)) := zS_iload d52_37
theorem v52_39 (L : Nat) (xs : Nat → Int32) : zVal L xs 52 39 (.inl (i_c (.int 20) 41)) := zS_bipush d52_39 (by decide)
theorem v52_41 (L : Nat) (xs : Nat → Int32) : zVal L xs 52 41 (.inl (i_f2 (fun x y => decide (x < y)) 47 44)) := zS_icmp_lt d52_41 (by decide)
theorem v52_44 (L : Nat) (xs : Nat → Int32) : zVal L xs 52 44 (.inl (i_c (.int (-2)) 46)) := zS_bipush d52_44 (by decide)
theorem v52_46 (L : Nat) (xs : Nat → Int32) : zVal L xs 52 46 (.inr (.inr 1)) := zr_1 d52_46 rfl
theorem v52_47 (L : Nat) (xs : Nat → Int32) : zVal L xs 52 47 (.inl (i_al 0 48)) := zS_aload_n d52_47 rfl
theorem v52_48 (L : Nat) (xs : Nat → Int32) : zVal L xs 52 48 (.inl (i_gf 5 0 51)) := zS_getf d52_48 (zcl5) (by decide) zi5 w284
theorem v52_51 (L : Nat) (xs : Nat → Int32) : zVal L xs 52 51 (.inl (i_il 8 53)) := zS_iload d52_51
theorem v52_53 (L : Nat) (xs : Nat → Int32) : zVal L xs 52 53 (.inl (i_ll 6 55)) := zS_lload d52_53
theorem v52_55 (L : Nat) (xs : Nat → Int32) : zVal L xs 52 55 (.inl (i_pl 56)) := zS_last d52_55
theorem v52_56 (L : Nat) (xs : Nat → Int32) : zVal L xs 52 56 (.inl (i_al 0 57)) := zS_aload_n d52_56 rfl
theorem v52_57 (L : Nat) (xs : Nat → Int32) : zVal L xs 52 57 (.inl (i_gf 5 2 60)) := zS_getf d52_57 (zcl5) (by decide) zi5 w286
theorem v52_60 (L : Nat) (xs : Nat → Int32) : zVal L xs 52 60 (.inl (i_il 8 62)) := zS_iload d52_60
theorem v52_62 (L : Nat) (xs : Nat → Int32) : zVal L xs 52 62 (.inl (i_il 3 63)) := zS_iload_n d52_62 rfl
theorem v52_63 (L : Nat) (xs : Nat → Int32) : zVal L xs 52 63 (.inl (i_pa 0 (fun x => x) 64)) := zS_iast d52_63
theorem v52_64 (L : Nat) (xs : Nat → Int32) : zVal L xs 52 64 (.inl (i_al 0 65)) := zS_aload_n d52_64 rfl
theorem v52_65 (L : Nat) (xs : Nat → Int32) : zVal L xs 52 65 (.inl (i_gf 5 1 68)) := zS_getf d52_65 (zcl5) (by decide) zi5 w285
theorem v52_68 (L : Nat) (xs : Nat → Int32) : zVal L xs 52 68 (.inl (i_il 8 70)) := zS_iload d52_68
theorem v52_70 (L : Nat) (xs : Nat → Int32) : zVal L xs 52 70 (.inl (i_ll 4 72)) := zS_lload d52_70
theorem v52_72 (L : Nat) (xs : Nat → Int32) : zVal L xs 52 72 (.inl (i_pl 73)) := zS_last d52_72
theorem v52_73 (L : Nat) (xs : Nat → Int32) : zVal L xs 52 73 (.inl (i_al 0 74)) := zS_aload_n d52_73 rfl
theorem v52_74 (L : Nat) (xs : Nat → Int32) : zVal L xs 52 74 (.inl (i_al 0 75)) := zS_aload_n d52_74 rfl
theorem v52_75 (L : Nat) (xs : Nat → Int32) : zVal L xs 52 75 (.inl (i_gf 5 4 78)) := zS_getf d52_75 (zcl5) (by decide) zi5 w288
theorem v52_78 (L : Nat) (xs : Nat → Int32) : zVal L xs 52 78 (.inl (i_il 8 80)) := zS_iload d52_78
theorem v52_80 (L : Nat) (xs : Nat → Int32) : zVal L xs 52 80 (.inl (i_c (.int 1) 81)) := zS_iconst d52_80 (by decide)
theorem v52_81 (L : Nat) (xs : Nat → Int32) : zVal L xs 52 81 (.inl (i_bi (fun x y => x + y) 82)) := zS_iadd d52_81
theorem v52_82 (L : Nat) (xs : Nat → Int32) : zVal L xs 52 82 (.inl (i_mm (0, 0) (fun x y => if x < y then y else x) 85)) := zS_mmax d52_82 w463 w270 w77 w271 (by decide)
theorem v52_85 (L : Nat) (xs : Nat → Int32) : zVal L xs 52 85 (.inl (i_pf 5 4 okI 88)) := zS_putf (ty := .int) d52_85 (zcl5) (by decide) zi5 w288 zy5 zn5 (by decide +kernel) (by decide +kernel) okI_ok
theorem v52_88 (L : Nat) (xs : Nat → Int32) : zVal L xs 52 88 (.inl (i_al 0 89)) := zS_aload_n d52_88 rfl
theorem v52_89 (L : Nat) (xs : Nat → Int32) : zVal L xs 52 89 (.inl (i_gf 5 4 92)) := zS_getf d52_89 (zcl5) (by decide) zi5 w288
theorem v52_92 (L : Nat) (xs : Nat → Int32) : zVal L xs 52 92 (.inr (.inr 1)) := zr_1 d52_92 rfl
theorem vt52 (L : Nat) (xs : Nat → Int32) : zAll (fun x => zVal L xs 52 x.1 x.2) (tb52) := ⟨v52_0 L xs, v52_1 L xs, v52_2 L xs, v52_5 L xs, v52_8 L xs, v52_10 L xs, v52_11 L xs, v52_12 L xs, v52_13 L xs, v52_16 L xs, v52_19 L xs, v52_20 L xs, v52_21 L xs, v52_22 L xs, v52_23 L xs, v52_26 L xs, v52_27 L xs, v52_29 L xs, v52_30 L xs, v52_32 L xs, v52_35 L xs, v52_37 L xs, v52_39 L xs, v52_41 L xs, v52_44 L xs, v52_46 L xs, v52_47 L xs, v52_48 L xs, v52_51 L xs, v52_53 L xs, v52_55 L xs, v52_56 L xs, v52_57 L xs, v52_60 L xs, v52_62 L xs, v52_63 L xs, v52_64 L xs, v52_65 L xs, v52_68 L xs, v52_70 L xs, v52_72 L xs, v52_73 L xs, v52_74 L xs, v52_75 L xs, v52_78 L xs, v52_80 L xs, v52_81 L xs, v52_82 L xs, v52_85 L xs, v52_88 L xs, v52_89 L xs, v52_92 L xs, trivial⟩
theorem d53_0 : decode (mB 53) 0 = .ok (.iload_n 3, 1) := by decide +kernel
theorem d53_1 : decode (mB 53) 1 = .ok (.iload_n 2, 1) := by decide +kernel
theorem d53_2 : decode (mB 53) 2 = .ok (.isub, 1) := by decide +kernel
theorem d53_3 : decode (mB 53) 3 = .ok (.bipush 12, 2) := by decide +kernel
theorem d53_5 : decode (mB 53) 5 = .ok (.invokestatic 50, 3) := by decide +kernel
theorem d53_8 : decode (mB 53) 8 = .ok (.istore 4, 2) := by decide +kernel
theorem d53_10 : decode (mB 53) 10 = .ok (.aload_n 0, 1) := by decide +kernel
theorem d53_11 : decode (mB 53) 11 = .ok (.getfield 22, 3) := by decide +kernel
theorem d53_14 : decode (mB 53) 14 = .ok (.iconst 0, 1) := by decide +kernel
theorem d53_15 : decode (mB 53) 15 = .ok (.invokestatic 53, 3) := by decide +kernel
theorem d53_18 : decode (mB 53) 18 = .ok (.lconst 0, 1) := by decide +kernel
theorem d53_19 : decode (mB 53) 19 = .ok (.lstore 5, 2) := by decide +kernel
theorem d53_21 : decode (mB 53) 21 = .ok (.iconst 0, 1) := by decide +kernel
theorem d53_22 : decode (mB 53) 22 = .ok (.istore 7, 2) := by decide +kernel
theorem d53_24 : decode (mB 53) 24 = .ok (.iload 7, 2) := by decide +kernel
theorem d53_26 : decode (mB 53) 26 = .ok (.iload 4, 2) := by decide +kernel
theorem d53_28 : decode (mB 53) 28 = .ok (.iconst 2, 1) := by decide +kernel
theorem d53_29 : decode (mB 53) 29 = .ok (.iadd, 1) := by decide +kernel
theorem d53_30 : decode (mB 53) 30 = .ok (.if_icmp .ge 67, 3) := by decide +kernel
theorem d53_33 : decode (mB 53) 33 = .ok (.iload 7, 2) := by decide +kernel
theorem d53_35 : decode (mB 53) 35 = .ok (.ifCond .eq 12, 3) := by decide +kernel
theorem d53_38 : decode (mB 53) 38 = .ok (.iload 7, 2) := by decide +kernel
theorem d53_40 : decode (mB 53) 40 = .ok (.iload 4, 2) := by decide +kernel
theorem d53_42 : decode (mB 53) 42 = .ok (.iconst 1, 1) := by decide +kernel
theorem d53_43 : decode (mB 53) 43 = .ok (.iadd, 1) := by decide +kernel
theorem d53_44 : decode (mB 53) 44 = .ok (.if_icmp .ne 7, 3) := by decide +kernel
theorem d53_47 : decode (mB 53) 47 = .ok (.iconst 1, 1) := by decide +kernel
theorem d53_48 : decode (mB 53) 48 = .ok (.goto 4, 3) := by decide +kernel
theorem d53_51 : decode (mB 53) 51 = .ok (.iconst 0, 1) := by decide +kernel
theorem d53_52 : decode (mB 53) 52 = .ok (.istore 8, 2) := by decide +kernel
theorem d53_54 : decode (mB 53) 54 = .ok (.lload 5, 2) := by decide +kernel
theorem d53_56 : decode (mB 53) 56 = .ok (.bipush 8, 2) := by decide +kernel
theorem d53_58 : decode (mB 53) 58 = .ok (.lshl, 1) := by decide +kernel
theorem d53_59 : decode (mB 53) 59 = .ok (.iload 8, 2) := by decide +kernel
theorem d53_61 : decode (mB 53) 61 = .ok (.ifCond .eq 8, 3) := by decide +kernel
theorem d53_64 : decode (mB 53) 64 = .ok (.bipush 46, 2) := by decide +kernel
theorem d53_66 : decode (mB 53) 66 = .ok (.goto 11, 3) := by decide +kernel
theorem d53_69 : decode (mB 53) 69 = .ok (.aload_n 1, 1) := by decide +kernel
theorem d53_70 : decode (mB 53) 70 = .ok (.iload_n 2, 1) := by decide +kernel
theorem d53_71 : decode (mB 53) 71 = .ok (.iload 7, 2) := by decide +kernel
theorem d53_73 : decode (mB 53) 73 = .ok (.iadd, 1) := by decide +kernel
theorem d53_74 : decode (mB 53) 74 = .ok (.iconst 1, 1) := by decide +kernel
theorem d53_75 : decode (mB 53) 75 = .ok (.isub, 1) := by decide +kernel
theorem d53_76 : decode (mB 53) 76 = .ok (.caload, 1) := by decide +kernel
theorem d53_77 : decode (mB 53) 77 = .ok (.i2l, 1) := by decide +kernel
theorem d53_78 : decode (mB 53) 78 = .ok (.lor, 1) := by decide +kernel
theorem d53_79 : decode (mB 53) 79 = .ok (.lstore 5, 2) := by decide +kernel
theorem d53_81 : decode (mB 53) 81 = .ok (.aload_n 0, 1) := by decide +kernel
theorem d53_82 : decode (mB 53) 82 = .ok (.lload 5, 2) := by decide +kernel
theorem d53_84 : decode (mB 53) 84 = .ok (.iload 7, 2) := by decide +kernel
theorem d53_86 : decode (mB 53) 86 = .ok (.iconst 1, 1) := by decide +kernel
theorem d53_87 : decode (mB 53) 87 = .ok (.iadd, 1) := by decide +kernel
theorem d53_88 : decode (mB 53) 88 = .ok (.invokevirtual 59, 3) := by decide +kernel
theorem d53_91 : decode (mB 53) 91 = .ok (.iinc 7 1, 3) := by decide +kernel
theorem d53_94 : decode (mB 53) 94 = .ok (.goto (-70), 3) := by decide +kernel
theorem d53_97 : decode (mB 53) 97 = .ok (.iconst 0, 1) := by decide +kernel
theorem d53_98 : decode (mB 53) 98 = .ok (.istore 7, 2) := by decide +kernel
theorem d53_100 : decode (mB 53) 100 = .ok (.iconst 2, 1) := by decide +kernel
theorem d53_101 : decode (mB 53) 101 = .ok (.istore 8, 2) := by decide +kernel
theorem d53_103 : decode (mB 53) 103 = .ok (.iload 8, 2) := by decide +kernel
theorem d53_105 : decode (mB 53) 105 = .ok (.iload 4, 2) := by decide +kernel
theorem d53_107 : decode (mB 53) 107 = .ok (.iconst 2, 1) := by decide +kernel
theorem d53_108 : decode (mB 53) 108 = .ok (.isub, 1) := by decide +kernel
theorem d53_109 : decode (mB 53) 109 = .ok (.if_icmp .gt 28, 3) := by decide +kernel
theorem d53_112 : decode (mB 53) 112 = .ok (.iload 7, 2) := by decide +kernel
theorem d53_114 : decode (mB 53) 114 = .ok (.aload_n 0, 1) := by decide +kernel
theorem d53_115 : decode (mB 53) 115 = .ok (.getfield 22, 3) := by decide +kernel
theorem d53_118 : decode (mB 53) 118 = .ok (.iload 8, 2) := by decide +kernel
theorem d53_120 : decode (mB 53) 120 = .ok (.iconst 1, 1) := by decide +kernel
theorem d53_121 : decode (mB 53) 121 = .ok (.iadd, 1) := by decide +kernel
theorem d53_122 : decode (mB 53) 122 = .ok (.iaload, 1) := by decide +kernel
theorem d53_123 : decode (mB 53) 123 = .ok (.iconst 1, 1) := by decide +kernel
theorem d53_124 : decode (mB 53) 124 = .ok (.iand, 1) := by decide +kernel
theorem d53_125 : decode (mB 53) 125 = .ok (.iload 8, 2) := by decide +kernel
theorem d53_127 : decode (mB 53) 127 = .ok (.ishl, 1) := by decide +kernel
theorem d53_128 : decode (mB 53) 128 = .ok (.ior, 1) := by decide +kernel
theorem d53_129 : decode (mB 53) 129 = .ok (.istore 7, 2) := by decide +kernel
theorem d53_131 : decode (mB 53) 131 = .ok (.iinc 8 1, 3) := by decide +kernel
theorem d53_134 : decode (mB 53) 134 = .ok (.goto (-31), 3) := by decide +kernel
theorem d53_137 : decode (mB 53) 137 = .ok (.iload 7, 2) := by decide +kernel
theorem d53_139 : decode (mB 53) 139 = .ok (.ireturn, 1) := by decide +kernel
theorem v53_0 (L : Nat) (xs : Nat → Int32) : zVal L xs 53 0 (.inl (i_il 3 1)) := zS_iload_n d53_0 rfl
theorem v53_1 (L : Nat) (xs : Nat → Int32) : zVal L xs 53 1 (.inl (i_il 2 2)) := zS_iload_n d53_1 rfl
theorem v53_2 (L : Nat) (xs : Nat → Int32) : zVal L xs 53 2 (.inl (i_bi (fun x y => x - y) 3)) := zS_isub d53_2
theorem v53_3 (L : Nat) (xs : Nat → Int32) : zVal L xs 53 3 (.inl (i_c (.int 12) 5)) := zS_bipush d53_3 (by decide)
theorem v53_5 (L : Nat) (xs : Nat → Int32) : zVal L xs 53 5 (.inl (i_mm (0, 0) (fun x y => if y < x then y else x) 8)) := zS_mmin d53_5 w473 w267 w77 w268 (by decide)
theorem v53_8 (L : Nat) (xs : Nat → Int32) : zVal L xs 53 8 (.inl (i_is 4 10)) := zS_istore d53_8
theorem v53_10 (L : Nat) (xs : Nat → Int32) : zVal L xs 53 10 (.inl (i_al 0 11)) := zS_aload_n d53_10 rfl
theorem v53_11 (L : Nat) (xs : Nat → Int32) : zVal L xs 53 11 (.inl (i_gf 5 3 14)) := zS_getf d53_11 (zcl5) (by decide) zi5 w287
theorem v53_14 (L : Nat) (xs : Nat → Int32) : zVal L xs 53 14 (.inl (i_c (.int 0) 15)) := zS_iconst d53_14 (by decide)
theorem v53_15 (L : Nat) (xs : Nat → Int32) : zVal L xs 53 15 (.inr (.inl (149, 2, 0))) := ⟨by decide +kernel, by decide +kernel, zc_static d53_15 w399 w474 w398 w84 ⟨by decide +kernel, by decide +kernel, by decide +kernel⟩ (by decide) (by decide)⟩
theorem v53_18 (L : Nat) (xs : Nat → Int32) : zVal L xs 53 18 (.inl (i_c (.long 0) 19)) := zS_lconst d53_18 (by decide)
theorem v53_19 (L : Nat) (xs : Nat → Int32) : zVal L xs 53 19 (.inl (i_ls 5 21)) := zS_lstore d53_19
theorem v53_21 (L : Nat) (xs : Nat → Int32) : zVal L xs 53 21 (.inl (i_c (.int 0) 22)) := zS_iconst d53_21 (by decide)
theorem v53_22 (L : Nat) (xs : Nat → Int32) : zVal L xs 53 22 (.inl (i_is 7 24)) := zS_istore d53_22
theorem v53_24 (L : Nat) (xs : Nat → Int32) : zVal L xs 53 24 (.inl (i_k [false, false, false, true, false, false, true, false, true] (i_il 7 26))) := zS_k (zS_iload d53_24)
theorem v53_26 (L : Nat) (xs : Nat → Int32) : zVal L xs 53 26 (.inl (i_il 4 28)) := zS_iload d53_26
theorem v53_28 (L : Nat) (xs : Nat → Int32) : zVal L xs 53 28 (.inl (i_c (.int 2) 29)) := zS_iconst d53_28 (by decide)
theorem v53_29 (L : Nat) (xs : Nat → Int32) : zVal L xs 53 29 (.inl (i_bi (fun x y => x + y) 30)) := zS_iadd d53_29
theorem v53_30 (L : Nat) (xs : Nat → Int32) : zVal L xs 53 30 (.inl (i_f2 (fun x y => decide (y ≤ x)) 97 33)) := zS_icmp_ge d53_30 (by decide)
theorem v53_33 (L : Nat) (xs : Nat → Int32) : zVal L xs 53 33 (.inl (i_il 7 35)) := zS_iload d53_33
theorem v53_35 (L : Nat) (xs : Nat → Int32) : zVal L xs 53 35 (.inl (i_f1 (fun x => decide (x = 0)) 47 38)) := zS_if_eq d53_35 (by decide)
theorem v53_38 (L : Nat) (xs : Nat → Int32) : zVal L xs 53 38 (.inl (i_il 7 40)) := zS_iload d53_38
theorem v53_40 (L : Nat) (xs : Nat → Int32) : zVal L xs 53 40 (.inl (i_il 4 42)) := zS_iload d53_40
theorem v53_42 (L : Nat) (xs : Nat → Int32) : zVal L xs 53 42 (.inl (i_c (.int 1) 43)) := zS_iconst d53_42 (by decide)
theorem v53_43 (L : Nat) (xs : Nat → Int32) : zVal L xs 53 43 (.inl (i_bi (fun x y => x + y) 44)) := zS_iadd d53_43
theorem v53_44 (L : Nat) (xs : Nat → Int32) : zVal L xs 53 44 (.inl (i_f2 (fun x y => decide (¬ x = y)) 51 47)) := zS_icmp_ne d53_44 (by decide)
theorem v53_47 (L : Nat) (xs : Nat → Int32) : zVal L xs 53 47 (.inl (i_k [false, false, false, true, false, false, true, false, true] (i_c (.int 1) 48))) := zS_k (zS_iconst d53_47 (by decide))
theorem v53_48 (L : Nat) (xs : Nat → Int32) : zVal L xs 53 48 (.inl (i_go 52)) := zS_goto d53_48 (by decide)
theorem v53_51 (L : Nat) (xs : Nat → Int32) : zVal L xs 53 51 (.inl (i_c (.int 0) 52)) := zS_iconst d53_51 (by decide)
theorem v53_52 (L : Nat) (xs : Nat → Int32) : zVal L xs 53 52 (.inl (i_k [false, false, false, true, false, false, true, false, true] (i_is 8 54))) := zS_k (zS_istore d53_52)
theorem v53_54 (L : Nat) (xs : Nat → Int32) : zVal L xs 53 54 (.inl (i_ll 5 56)) := zS_lload d53_54
theorem v53_56 (L : Nat) (xs : Nat → Int32) : zVal L xs 53 56 (.inl (i_c (.int 8) 58)) := zS_bipush d53_56 (by decide)
theorem v53_58 (L : Nat) (xs : Nat → Int32) : zVal L xs 53 58 (.inl (i_sl (fun x y => x <<< (y.toInt64 &&& 63)) 59)) := zS_lshl d53_58
theorem v53_59 (L : Nat) (xs : Nat → Int32) : zVal L xs 53 59 (.inl (i_il 8 61)) := zS_iload d53_59
theorem v53_61 (L : Nat) (xs : Nat → Int32) : zVal L xs 53 61 (.inl (i_f1 (fun x => decide (x = 0)) 69 64)) := zS_if_eq d53_61 (by decide)
theorem v53_64 (L : Nat) (xs : Nat → Int32) : zVal L xs 53 64 (.inl (i_c (.int 46) 66)) := zS_bipush d53_64 (by decide)
theorem v53_66 (L : Nat) (xs : Nat → Int32) : zVal L xs 53 66 (.inl (i_go 77)) := zS_goto d53_66 (by decide)
theorem v53_69 (L : Nat) (xs : Nat → Int32) : zVal L xs 53 69 (.inl (i_al 1 70)) := zS_aload_n d53_69 rfl
theorem v53_70 (L : Nat) (xs : Nat → Int32) : zVal L xs 53 70 (.inl (i_il 2 71)) := zS_iload_n d53_70 rfl
theorem v53_71 (L : Nat) (xs : Nat → Int32) : zVal L xs 53 71 (.inl (i_il 7 73)) := zS_iload d53_71
theorem v53_73 (L : Nat) (xs : Nat → Int32) : zVal L xs 53 73 (.inl (i_bi (fun x y => x + y) 74)) := zS_iadd d53_73
theorem v53_74 (L : Nat) (xs : Nat → Int32) : zVal L xs 53 74 (.inl (i_c (.int 1) 75)) := zS_iconst d53_74 (by decide)
theorem v53_75 (L : Nat) (xs : Nat → Int32) : zVal L xs 53 75 (.inl (i_bi (fun x y => x - y) 76)) := zS_isub d53_75
theorem v53_76 (L : Nat) (xs : Nat → Int32) : zVal L xs 53 76 (.inl (i_ga 2 77)) := zS_cald d53_76
theorem v53_77 (L : Nat) (xs : Nat → Int32) : zVal L xs 53 77 (.inl (i_k [false, false, false, true, false, true, true, false, true] (i_i2l 78))) := zS_k (zS_i2l d53_77)
theorem v53_78 (L : Nat) (xs : Nat → Int32) : zVal L xs 53 78 (.inl (i_bl (fun x y => x ||| y) 79)) := zS_lor d53_78
theorem v53_79 (L : Nat) (xs : Nat → Int32) : zVal L xs 53 79 (.inl (i_ls 5 81)) := zS_lstore d53_79
theorem v53_81 (L : Nat) (xs : Nat → Int32) : zVal L xs 53 81 (.inl (i_al 0 82)) := zS_aload_n d53_81 rfl
theorem v53_82 (L : Nat) (xs : Nat → Int32) : zVal L xs 53 82 (.inl (i_ll 5 84)) := zS_lload d53_82
theorem v53_84 (L : Nat) (xs : Nat → Int32) : zVal L xs 53 84 (.inl (i_il 7 86)) := zS_iload d53_84
theorem v53_86 (L : Nat) (xs : Nat → Int32) : zVal L xs 53 86 (.inl (i_c (.int 1) 87)) := zS_iconst d53_86 (by decide)
theorem v53_87 (L : Nat) (xs : Nat → Int32) : zVal L xs 53 87 (.inl (i_bi (fun x y => x + y) 88)) := zS_iadd d53_87
theorem v53_88 (L : Nat) (xs : Nat → Int32) : zVal L xs 53 88 (.inr (.inl (54, 3, 6))) := ⟨by decide +kernel, by decide +kernel, zc_virt d53_88 zcl5 w478 w475 w477 w1 w79 ⟨by decide +kernel, by decide +kernel, by decide +kernel⟩ (by decide) (by decide)⟩
theorem v53_91 (L : Nat) (xs : Nat → Int32) : zVal L xs 53 91 (.inl (i_in 7 1 94)) := zS_iinc d53_91 (by decide)
theorem v53_94 (L : Nat) (xs : Nat → Int32) : zVal L xs 53 94 (.inl (i_go 24)) := zS_goto d53_94 (by decide)
theorem v53_97 (L : Nat) (xs : Nat → Int32) : zVal L xs 53 97 (.inl (i_c (.int 0) 98)) := zS_iconst d53_97 (by decide)
theorem v53_98 (L : Nat) (xs : Nat → Int32) : zVal L xs 53 98 (.inl (i_is 7 100)) := zS_istore d53_98
theorem v53_100 (L : Nat) (xs : Nat → Int32) : zVal L xs 53 100 (.inl (i_c (.int 2) 101)) := zS_iconst d53_100 (by decide)
theorem v53_101 (L : Nat) (xs : Nat → Int32) : zVal L xs 53 101 (.inl (i_is 8 103)) := zS_istore d53_101
theorem v53_103 (L : Nat) (xs : Nat → Int32) : zVal L xs 53 103 (.inl (i_k [false, true, true, true, false, true, true, false, false] (i_il 8 105))) := zS_k (zS_iload d53_103)
theorem v53_105 (L : Nat) (xs : Nat → Int32) : zVal L xs 53 105 (.inl (i_il 4 107)) := zS_iload d53_105
theorem v53_107 (L : Nat) (xs : Nat → Int32) : zVal L xs 53 107 (.inl (i_c (.int 2) 108)) := zS_iconst d53_107 (by decide)
theorem v53_108 (L : Nat) (xs : Nat → Int32) : zVal L xs 53 108 (.inl (i_bi (fun x y => x - y) 109)) := zS_isub d53_108
theorem v53_109 (L : Nat) (xs : Nat → Int32) : zVal L xs 53 109 (.inl (i_f2 (fun x y => decide (y < x)) 137 112)) := zS_icmp_gt d53_109 (by decide)
theorem v53_112 (L : Nat) (xs : Nat → Int32) : zVal L xs 53 112 (.inl (i_il 7 114)) := zS_iload d53_112
theorem v53_114 (L : Nat) (xs : Nat → Int32) : zVal L xs 53 114 (.inl (i_al 0 115)) := zS_aload_n d53_114 rfl
theorem v53_115 (L : Nat) (xs : Nat → Int32) : zVal L xs 53 115 (.inl (i_gf 5 3 118)) := zS_getf d53_115 (zcl5) (by decide) zi5 w287
theorem v53_118 (L : Nat) (xs : Nat → Int32) : zVal L xs 53 118 (.inl (i_il 8 120)) := zS_iload d53_118
theorem v53_120 (L : Nat) (xs : Nat → Int32) : zVal L xs 53 120 (.inl (i_c (.int 1) 121)) := zS_iconst d53_120 (by decide)
theorem v53_121 (L : Nat) (xs : Nat → Int32) : zVal L xs 53 121 (.inl (i_bi (fun x y => x + y) 122)) := zS_iadd d53_121
theorem v53_122 (L : Nat) (xs : Nat → Int32) : zVal L xs 53 122 (.inl (i_ga 0 123)) := zS_iald d53_122
theorem v53_123 (L : Nat) (xs : Nat → Int32) : zVal L xs 53 123 (.inl (i_c (.int 1) 124)) := zS_iconst d53_123 (by decide)
theorem v53_124 (L : Nat) (xs : Nat → Int32) : zVal L xs 53 124 (.inl (i_bi (fun x y => x &&& y) 125)) := zS_iand d53_124
theorem v53_125 (L : Nat) (xs : Nat → Int32) : zVal L xs 53 125 (.inl (i_il 8 127)) := zS_iload d53_125
theorem v53_127 (L : Nat) (xs : Nat → Int32) : zVal L xs 53 127 (.inl (i_bi (fun x y => x <<< (y &&& 31)) 128)) := zS_ishl d53_127
theorem v53_128 (L : Nat) (xs : Nat → Int32) : zVal L xs 53 128 (.inl (i_bi (fun x y => x ||| y) 129)) := zS_ior d53_128
theorem v53_129 (L : Nat) (xs : Nat → Int32) : zVal L xs 53 129 (.inl (i_is 7 131)) := zS_istore d53_129
theorem v53_131 (L : Nat) (xs : Nat → Int32) : zVal L xs 53 131 (.inl (i_in 8 1 134)) := zS_iinc d53_131 (by decide)
theorem v53_134 (L : Nat) (xs : Nat → Int32) : zVal L xs 53 134 (.inl (i_go 103)) := zS_goto d53_134 (by decide)
theorem v53_137 (L : Nat) (xs : Nat → Int32) : zVal L xs 53 137 (.inl (i_il 7 139)) := zS_iload d53_137
theorem v53_139 (L : Nat) (xs : Nat → Int32) : zVal L xs 53 139 (.inr (.inr 1)) := zr_1 d53_139 rfl
theorem vt53 (L : Nat) (xs : Nat → Int32) : zAll (fun x => zVal L xs 53 x.1 x.2) (tb53) := ⟨v53_0 L xs, v53_1 L xs, v53_2 L xs, v53_3 L xs, v53_5 L xs, v53_8 L xs, v53_10 L xs, v53_11 L xs, v53_14 L xs, v53_15 L xs, v53_18 L xs, v53_19 L xs, v53_21 L xs, v53_22 L xs, v53_24 L xs, v53_26 L xs, v53_28 L xs, v53_29 L xs, v53_30 L xs, v53_33 L xs, v53_35 L xs, v53_38 L xs, v53_40 L xs, v53_42 L xs, v53_43 L xs, v53_44 L xs, v53_47 L xs, v53_48 L xs, v53_51 L xs, v53_52 L xs, v53_54 L xs, v53_56 L xs, v53_58 L xs, v53_59 L xs, v53_61 L xs, v53_64 L xs, v53_66 L xs, v53_69 L xs, v53_70 L xs, v53_71 L xs, v53_73 L xs, v53_74 L xs, v53_75 L xs, v53_76 L xs, v53_77 L xs, v53_78 L xs, v53_79 L xs, v53_81 L xs, v53_82 L xs, v53_84 L xs, v53_86 L xs, v53_87 L xs, v53_88 L xs, v53_91 L xs, v53_94 L xs, v53_97 L xs, v53_98 L xs, v53_100 L xs, v53_101 L xs, v53_103 L xs, v53_105 L xs, v53_107 L xs, v53_108 L xs, v53_109 L xs, v53_112 L xs, v53_114 L xs, v53_115 L xs, v53_118 L xs, v53_120 L xs, v53_121 L xs, v53_122 L xs, v53_123 L xs, v53_124 L xs, v53_125 L xs, v53_127 L xs, v53_128 L xs, v53_129 L xs, v53_131 L xs, v53_134 L xs, v53_137 L xs, v53_139 L xs, trivial⟩
theorem d54_0 : decode (mB 54) 0 = .ok (.iconst 0, 1) := by decide +kernel
theorem d54_1 : decode (mB 54) 1 = .ok (.istore 4, 2) := by decide +kernel
theorem d54_3 : decode (mB 54) 3 = .ok (.iload 4, 2) := by decide +kernel
theorem d54_5 : decode (mB 54) 5 = .ok (.aload_n 0, 1) := by decide +kernel
theorem d54_6 : decode (mB 54) 6 = .ok (.getfield 40, 3) := by decide +kernel
theorem d54_9 : decode (mB 54) 9 = .ok (.if_icmp .ge 105, 3) := by decide +kernel
theorem d54_12 : decode (mB 54) 12 = .ok (.aload_n 0, 1) := by decide +kernel
theorem d54_13 : decode (mB 54) 13 = .ok (.getfield 18, 3) := by decide +kernel
theorem d54_16 : decode (mB 54) 16 = .ok (.iload 4, 2) := by decide +kernel
theorem d54_18 : decode (mB 54) 18 = .ok (.iaload, 1) := by decide +kernel
theorem d54_19 : decode (mB 54) 19 = .ok (.istore 5, 2) := by decide +kernel
theorem d54_21 : decode (mB 54) 21 = .ok (.iload 5, 2) := by decide +kernel
theorem d54_23 : decode (mB 54) 23 = .ok (.iload_n 3, 1) := by decide +kernel
theorem d54_24 : decode (mB 54) 24 = .ok (.if_icmp .gt 84, 3) := by decide +kernel
theorem d54_27 : decode (mB 54) 27 = .ok (.lload_n 1, 1) := by decide +kernel
theorem d54_28 : decode (mB 54) 28 = .ok (.iload 5, 2) := by decide +kernel
theorem d54_30 : decode (mB 54) 30 = .ok (.invokestatic 32, 3) := by decide +kernel
theorem d54_33 : decode (mB 54) 33 = .ok (.land, 1) := by decide +kernel
theorem d54_34 : decode (mB 54) 34 = .ok (.aload_n 0, 1) := by decide +kernel
theorem d54_35 : decode (mB 54) 35 = .ok (.getfield 11, 3) := by decide +kernel
theorem d54_38 : decode (mB 54) 38 = .ok (.iload 4, 2) := by decide +kernel
theorem d54_40 : decode (mB 54) 40 = .ok (.laload, 1) := by decide +kernel
theorem d54_41 : decode (mB 54) 41 = .ok (.lcmp, 1) := by decide +kernel
theorem d54_42 : decode (mB 54) 42 = .ok (.ifCond .ne 66, 3) := by decide +kernel
theorem d54_45 : decode (mB 54) 45 = .ok (.iconst 0, 1) := by decide +kernel
theorem d54_46 : decode (mB 54) 46 = .ok (.istore 6, 2) := by decide +kernel
theorem d54_48 : decode (mB 54) 48 = .ok (.iload 6, 2) := by decide +kernel
theorem d54_50 : decode (mB 54) 50 = .ok (.iload 5, 2) := by decide +kernel
theorem d54_52 : decode (mB 54) 52 = .ok (.if_icmp .gt 56, 3) := by decide +kernel
theorem d54_55 : decode (mB 54) 55 = .ok (.aload_n 0, 1) := by decide +kernel
theorem d54_56 : decode (mB 54) 56 = .ok (.getfield 15, 3) := by decide +kernel
theorem d54_59 : decode (mB 54) 59 = .ok (.iload 4, 2) := by decide +kernel
theorem d54_61 : decode (mB 54) 61 = .ok (.laload, 1) := by decide +kernel
theorem d54_62 : decode (mB 54) 62 = .ok (.iload 5, 2) := by decide +kernel
theorem d54_64 : decode (mB 54) 64 = .ok (.iconst 1, 1) := by decide +kernel
theorem d54_65 : decode (mB 54) 65 = .ok (.iadd, 1) := by decide +kernel
theorem d54_66 : decode (mB 54) 66 = .ok (.iload 6, 2) := by decide +kernel
theorem d54_68 : decode (mB 54) 68 = .ok (.invokestatic 63, 3) := by decide +kernel
theorem d54_71 : decode (mB 54) 71 = .ok (.istore 7, 2) := by decide +kernel
theorem d54_73 : decode (mB 54) 73 = .ok (.aload_n 0, 1) := by decide +kernel
theorem d54_74 : decode (mB 54) 74 = .ok (.getfield 22, 3) := by decide +kernel
theorem d54_77 : decode (mB 54) 77 = .ok (.iload_n 3, 1) := by decide +kernel
theorem d54_78 : decode (mB 54) 78 = .ok (.iload 5, 2) := by decide +kernel
theorem d54_80 : decode (mB 54) 80 = .ok (.isub, 1) := by decide +kernel
theorem d54_81 : decode (mB 54) 81 = .ok (.iload 6, 2) := by decide +kernel
theorem d54_83 : decode (mB 54) 83 = .ok (.iadd, 1) := by decide +kernel
theorem d54_84 : decode (mB 54) 84 = .ok (.aload_n 0, 1) := by decide +kernel
theorem d54_85 : decode (mB 54) 85 = .ok (.getfield 22, 3) := by decide +kernel
theorem d54_88 : decode (mB 54) 88 = .ok (.iload_n 3, 1) := by decide +kernel
theorem d54_89 : decode (mB 54) 89 = .ok (.iload 5, 2) := by decide +kernel
theorem d54_91 : decode (mB 54) 91 = .ok (.isub, 1) := by decide +kernel
theorem d54_92 : decode (mB 54) 92 = .ok (.iload 6, 2) := by decide +kernel
theorem d54_94 : decode (mB 54) 94 = .ok (.iadd, 1) := by decide +kernel
theorem d54_95 : decode (mB 54) 95 = .ok (.iaload, 1) := by decide +kernel
theorem d54_96 : decode (mB 54) 96 = .ok (.iload 7, 2) := by decide +kernel
theorem d54_98 : decode (mB 54) 98 = .ok (.invokestatic 44, 3) := by decide +kernel
theorem d54_101 : decode (mB 54) 101 = .ok (.iastore, 1) := by decide +kernel
theorem d54_102 : decode (mB 54) 102 = .ok (.iinc 6 1, 3) := by decide +kernel
theorem d54_105 : decode (mB 54) 105 = .ok (.goto (-57), 3) := by decide +kernel
theorem d54_108 : decode (mB 54) 108 = .ok (.iinc 4 1, 3) := by decide +kernel
theorem d54_111 : decode (mB 54) 111 = .ok (.goto (-108), 3) := by decide +kernel
theorem d54_114 : decode (mB 54) 114 = .ok (.return_, 1) := by decide +kernel
theorem v54_0 (L : Nat) (xs : Nat → Int32) : zVal L xs 54 0 (.inl (i_c (.int 0) 1)) := zS_iconst d54_0 (by decide)
theorem v54_1 (L : Nat) (xs : Nat → Int32) : zVal L xs 54 1 (.inl (i_is 4 3)) := zS_istore d54_1
theorem v54_3 (L : Nat) (xs : Nat → Int32) : zVal L xs 54 3 (.inl (i_k [false, false, true, false, false, true, true, true] (i_il 4 5))) := zS_k (zS_iload d54_3)
theorem v54_5 (L : Nat) (xs : Nat → Int32) : zVal L xs 54 5 (.inl (i_al 0 6)) := zS_aload_n d54_5 rfl
theorem v54_6 (L : Nat) (xs : Nat → Int32) : zVal L xs 54 6 (.inl (i_gf 5 4 9)) := zS_getf d54_6 (zcl5) (by decide) zi5 w288
theorem v54_9 (L : Nat) (xs : Nat → Int32) : zVal L xs 54 9 (.inl (i_f2 (fun x y => decide (y ≤ x)) 114 12)) := zS_icmp_ge d54_9 (by decide)
theorem v54_12 (L : Nat) (xs : Nat → Int32) : zVal L xs 54 12 (.inl (i_al 0 13)) := zS_aload_n d54_12 rfl
theorem v54_13 (L : Nat) (xs : Nat → Int32) : zVal L xs 54 13 (.inl (i_gf 5 2 16)) := zS_getf d54_13 (zcl5) (by decide) zi5 w286
theorem v54_16 (L : Nat) (xs : Nat → Int32) : zVal L xs 54 16 (.inl (i_il 4 18)) := zS_iload d54_16
theorem v54_18 (L : Nat) (xs : Nat → Int32) : zVal L xs 54 18 (.inl (i_ga 0 19)) := zS_iald d54_18
theorem v54_19 (L : Nat) (xs : Nat → Int32) : zVal L xs 54 19 (.inl (i_is 5 21)) := zS_istore d54_19
theorem v54_21 (L : Nat) (xs : Nat → Int32) : zVal L xs 54 21 (.inl (i_il 5 23)) := zS_iload d54_21
theorem v54_23 (L : Nat) (xs : Nat → Int32) : zVal L xs 54 23 (.inl (i_il 3 24)) := zS_iload_n d54_23 rfl
theorem v54_24 (L : Nat) (xs : Nat → Int32) : zVal L xs 54 24 (.inl (i_f2 (fun x y => decide (y < x)) 108 27)) := zS_icmp_gt d54_24 (by decide)
theorem v54_27 (L : Nat) (xs : Nat → Int32) : zVal L xs 54 27 (.inl (i_ll 1 28)) := zS_lload_n d54_27 rfl
theorem v54_28 (L : Nat) (xs : Nat → Int32) : zVal L xs 54 28 (.inl (i_il 5 30)) := zS_iload d54_28
theorem v54_30 (L : Nat) (xs : Nat → Int32) : zVal L xs 54 30 (.inr (.inl (58, 1, 0))) := ⟨by decide +kernel, by decide +kernel, zc_static d54_30 w458 w456 w457 w79 ⟨by decide +kernel, by decide +kernel, by decide +kernel⟩ (by decide) (by decide)⟩
theorem v54_33 (L : Nat) (xs : Nat → Int32) : zVal L xs 54 33 (.inl (i_bl (fun x y => x &&& y) 34)) := zS_land d54_33
theorem v54_34 (L : Nat) (xs : Nat → Int32) : zVal L xs 54 34 (.inl (i_al 0 35)) := zS_aload_n d54_34 rfl
theorem v54_35 (L : Nat) (xs : Nat → Int32) : zVal L xs 54 35 (.inl (i_gf 5 0 38)) := zS_getf d54_35 (zcl5) (by decide) zi5 w284
theorem v54_38 (L : Nat) (xs : Nat → Int32) : zVal L xs 54 38 (.inl (i_il 4 40)) := zS_iload d54_38
theorem v54_40 (L : Nat) (xs : Nat → Int32) : zVal L xs 54 40 (.inl (i_gl 41)) := zS_lald d54_40
theorem v54_41 (L : Nat) (xs : Nat → Int32) : zVal L xs 54 41 (.inl (i_cl 42)) := zS_lcmp d54_41
theorem v54_42 (L : Nat) (xs : Nat → Int32) : zVal L xs 54 42 (.inl (i_f1 (fun x => decide (¬ x = 0)) 108 45)) := zS_if_ne d54_42 (by decide)
theorem v54_45 (L : Nat) (xs : Nat → Int32) : zVal L xs 54 45 (.inl (i_c (.int 0) 46)) := zS_iconst d54_45 (by decide)
theorem v54_46 (L : Nat) (xs : Nat → Int32) : zVal L xs 54 46 (.inl (i_is 6 48)) := zS_istore d54_46
theorem v54_48 (L : Nat) (xs : Nat → Int32) : zVal L xs 54 48 (.inl (i_k [false, false, true, false, false, false, false, true] (i_il 6 50))) := zS_k (zS_iload d54_48)
theorem v54_50 (L : Nat) (xs : Nat → Int32) : zVal L xs 54 50 (.inl (i_il 5 52)) := zS_iload d54_50
theorem v54_52 (L : Nat) (xs : Nat → Int32) : zVal L xs 54 52 (.inl (i_f2 (fun x y => decide (y < x)) 108 55)) := zS_icmp_gt d54_52 (by decide)
theorem v54_55 (L : Nat) (xs : Nat → Int32) : zVal L xs 54 55 (.inl (i_al 0 56)) := zS_aload_n d54_55 rfl
theorem v54_56 (L : Nat) (xs : Nat → Int32) : zVal L xs 54 56 (.inl (i_gf 5 1 59)) := zS_getf d54_56 (zcl5) (by decide) zi5 w285
theorem v54_59 (L : Nat) (xs : Nat → Int32) : zVal L xs 54 59 (.inl (i_il 4 61)) := zS_iload d54_59
theorem v54_61 (L : Nat) (xs : Nat → Int32) : zVal L xs 54 61 (.inl (i_gl 62)) := zS_lald d54_61
theorem v54_62 (L : Nat) (xs : Nat → Int32) : zVal L xs 54 62 (.inl (i_il 5 64)) := zS_iload d54_62
theorem v54_64 (L : Nat) (xs : Nat → Int32) : zVal L xs 54 64 (.inl (i_c (.int 1) 65)) := zS_iconst d54_64 (by decide)
theorem v54_65 (L : Nat) (xs : Nat → Int32) : zVal L xs 54 65 (.inl (i_bi (fun x y => x + y) 66)) := zS_iadd d54_65
theorem v54_66 (L : Nat) (xs : Nat → Int32) : zVal L xs 54 66 (.inl (i_il 6 68)) := zS_iload d54_66
theorem v54_68 (L : Nat) (xs : Nat → Int32) : zVal L xs 54 68 (.inr (.inl (21, 3, 0))) := ⟨by decide +kernel, by decide +kernel, zc_staticN (host := "EditionGrid") d54_68 w451 (by decide +kernel) w450 w73 ⟨by decide +kernel, by decide +kernel, by decide +kernel⟩ (by decide) (by decide)⟩
theorem v54_71 (L : Nat) (xs : Nat → Int32) : zVal L xs 54 71 (.inl (i_is 7 73)) := zS_istore d54_71
theorem v54_73 (L : Nat) (xs : Nat → Int32) : zVal L xs 54 73 (.inl (i_al 0 74)) := zS_aload_n d54_73 rfl
theorem v54_74 (L : Nat) (xs : Nat → Int32) : zVal L xs 54 74 (.inl (i_gf 5 3 77)) := zS_getf d54_74 (zcl5) (by decide) zi5 w287
theorem v54_77 (L : Nat) (xs : Nat → Int32) : zVal L xs 54 77 (.inl (i_il 3 78)) := zS_iload_n d54_77 rfl
theorem v54_78 (L : Nat) (xs : Nat → Int32) : zVal L xs 54 78 (.inl (i_il 5 80)) := zS_iload d54_78
theorem v54_80 (L : Nat) (xs : Nat → Int32) : zVal L xs 54 80 (.inl (i_bi (fun x y => x - y) 81)) := zS_isub d54_80
theorem v54_81 (L : Nat) (xs : Nat → Int32) : zVal L xs 54 81 (.inl (i_il 6 83)) := zS_iload d54_81
theorem v54_83 (L : Nat) (xs : Nat → Int32) : zVal L xs 54 83 (.inl (i_bi (fun x y => x + y) 84)) := zS_iadd d54_83
theorem v54_84 (L : Nat) (xs : Nat → Int32) : zVal L xs 54 84 (.inl (i_al 0 85)) := zS_aload_n d54_84 rfl
theorem v54_85 (L : Nat) (xs : Nat → Int32) : zVal L xs 54 85 (.inl (i_gf 5 3 88)) := zS_getf d54_85 (zcl5) (by decide) zi5 w287
theorem v54_88 (L : Nat) (xs : Nat → Int32) : zVal L xs 54 88 (.inl (i_il 3 89)) := zS_iload_n d54_88 rfl
theorem v54_89 (L : Nat) (xs : Nat → Int32) : zVal L xs 54 89 (.inl (i_il 5 91)) := zS_iload d54_89
theorem v54_91 (L : Nat) (xs : Nat → Int32) : zVal L xs 54 91 (.inl (i_bi (fun x y => x - y) 92)) := zS_isub d54_91
theorem v54_92 (L : Nat) (xs : Nat → Int32) : zVal L xs 54 92 (.inl (i_il 6 94)) := zS_iload d54_92
theorem v54_94 (L : Nat) (xs : Nat → Int32) : zVal L xs 54 94 (.inl (i_bi (fun x y => x + y) 95)) := zS_iadd d54_94
theorem v54_95 (L : Nat) (xs : Nat → Int32) : zVal L xs 54 95 (.inl (i_ga 0 96)) := zS_iald d54_95
theorem v54_96 (L : Nat) (xs : Nat → Int32) : zVal L xs 54 96 (.inl (i_il 7 98)) := zS_iload d54_96
theorem v54_98 (L : Nat) (xs : Nat → Int32) : zVal L xs 54 98 (.inl (i_mm (0, 0) (fun x y => if x < y then y else x) 101)) := zS_mmax d54_98 w463 w270 w77 w271 (by decide)
theorem v54_101 (L : Nat) (xs : Nat → Int32) : zVal L xs 54 101 (.inl (i_pa 0 (fun x => x) 102)) := zS_iast d54_101
theorem v54_102 (L : Nat) (xs : Nat → Int32) : zVal L xs 54 102 (.inl (i_in 6 1 105)) := zS_iinc d54_102 (by decide)
theorem v54_105 (L : Nat) (xs : Nat → Int32) : zVal L xs 54 105 (.inl (i_go 48)) := zS_goto d54_105 (by decide)
theorem v54_108 (L : Nat) (xs : Nat → Int32) : zVal L xs 54 108 (.inl (i_k [false, false, true, false, false, true, true, true] (i_in 4 1 111))) := zS_k (zS_iinc d54_108 (by decide))
theorem v54_111 (L : Nat) (xs : Nat → Int32) : zVal L xs 54 111 (.inl (i_go 3)) := zS_goto d54_111 (by decide)
theorem v54_114 (L : Nat) (xs : Nat → Int32) : zVal L xs 54 114 (.inr (.inr 0)) := zr_0 d54_114 rfl
theorem vt54 (L : Nat) (xs : Nat → Int32) : zAll (fun x => zVal L xs 54 x.1 x.2) (tb54) := ⟨v54_0 L xs, v54_1 L xs, v54_3 L xs, v54_5 L xs, v54_6 L xs, v54_9 L xs, v54_12 L xs, v54_13 L xs, v54_16 L xs, v54_18 L xs, v54_19 L xs, v54_21 L xs, v54_23 L xs, v54_24 L xs, v54_27 L xs, v54_28 L xs, v54_30 L xs, v54_33 L xs, v54_34 L xs, v54_35 L xs, v54_38 L xs, v54_40 L xs, v54_41 L xs, v54_42 L xs, v54_45 L xs, v54_46 L xs, v54_48 L xs, v54_50 L xs, v54_52 L xs, v54_55 L xs, v54_56 L xs, v54_59 L xs, v54_61 L xs, v54_62 L xs, v54_64 L xs, v54_65 L xs, v54_66 L xs, v54_68 L xs, v54_71 L xs, v54_73 L xs, v54_74 L xs, v54_77 L xs, v54_78 L xs, v54_80 L xs, v54_81 L xs, v54_83 L xs, v54_84 L xs, v54_85 L xs, v54_88 L xs, v54_89 L xs, v54_91 L xs, v54_92 L xs, v54_94 L xs, v54_95 L xs, v54_96 L xs, v54_98 L xs, v54_101 L xs, v54_102 L xs, v54_105 L xs, v54_108 L xs, v54_111 L xs, v54_114 L xs, trivial⟩
theorem d55_0 : decode (mB 55) 0 = .ok (.iconst 0, 1) := by decide +kernel
theorem d55_1 : decode (mB 55) 1 = .ok (.istore_n 3, 1) := by decide +kernel
theorem d55_2 : decode (mB 55) 2 = .ok (.iload_n 3, 1) := by decide +kernel
theorem d55_3 : decode (mB 55) 3 = .ok (.aload_n 0, 1) := by decide +kernel
theorem d55_4 : decode (mB 55) 4 = .ok (.getfield 40, 3) := by decide +kernel
theorem d55_7 : decode (mB 55) 7 = .ok (.if_icmp .ge 22, 3) := by decide +kernel
theorem d55_10 : decode (mB 55) 10 = .ok (.aload_n 0, 1) := by decide +kernel
theorem d55_11 : decode (mB 55) 11 = .ok (.getfield 11, 3) := by decide +kernel
theorem d55_14 : decode (mB 55) 14 = .ok (.iload_n 3, 1) := by decide +kernel
theorem d55_15 : decode (mB 55) 15 = .ok (.laload, 1) := by decide +kernel
theorem d55_16 : decode (mB 55) 16 = .ok (.lload_n 1, 1) := by decide +kernel
theorem d55_17 : decode (mB 55) 17 = .ok (.lcmp, 1) := by decide +kernel
theorem d55_18 : decode (mB 55) 18 = .ok (.ifCond .ne 5, 3) := by decide +kernel
theorem d55_21 : decode (mB 55) 21 = .ok (.iload_n 3, 1) := by decide +kernel
theorem d55_22 : decode (mB 55) 22 = .ok (.ireturn, 1) := by decide +kernel
theorem d55_23 : decode (mB 55) 23 = .ok (.iinc 3 1, 3) := by decide +kernel
theorem d55_26 : decode (mB 55) 26 = .ok (.goto (-24), 3) := by decide +kernel
theorem d55_29 : decode (mB 55) 29 = .ok (.aload_n 0, 1) := by decide +kernel
theorem d55_30 : decode (mB 55) 30 = .ok (.getfield 40, 3) := by decide +kernel
theorem d55_33 : decode (mB 55) 33 = .ok (.ireturn, 1) := by decide +kernel
theorem v55_0 (L : Nat) (xs : Nat → Int32) : zVal L xs 55 0 (.inl (i_c (.int 0) 1)) := zS_iconst d55_0 (by decide)
theorem v55_1 (L : Nat) (xs : Nat → Int32) : zVal L xs 55 1 (.inl (i_is 3 2)) := zS_istore_n d55_1 rfl
theorem v55_2 (L : Nat) (xs : Nat → Int32) : zVal L xs 55 2 (.inl (i_k [false, false, true, false] (i_il 3 3))) := zS_k (zS_iload_n d55_2 rfl)
theorem v55_3 (L : Nat) (xs : Nat → Int32) : zVal L xs 55 3 (.inl (i_al 0 4)) := zS_aload_n d55_3 rfl
theorem v55_4 (L : Nat) (xs : Nat → Int32) : zVal L xs 55 4 (.inl (i_gf 5 4 7)) := zS_getf d55_4 (zcl5) (by decide) zi5 w288
theorem v55_7 (L : Nat) (xs : Nat → Int32) : zVal L xs 55 7 (.inl (i_f2 (fun x y => decide (y ≤ x)) 29 10)) := zS_icmp_ge d55_7 (by decide)
theorem v55_10 (L : Nat) (xs : Nat → Int32) : zVal L xs 55 10 (.inl (i_al 0 11)) := zS_aload_n d55_10 rfl
theorem v55_11 (L : Nat) (xs : Nat → Int32) : zVal L xs 55 11 (.inl (i_gf 5 0 14)) := zS_getf d55_11 (zcl5) (by decide) zi5 w284
theorem v55_14 (L : Nat) (xs : Nat → Int32) : zVal L xs 55 14 (.inl (i_il 3 15)) := zS_iload_n d55_14 rfl
theorem v55_15 (L : Nat) (xs : Nat → Int32) : zVal L xs 55 15 (.inl (i_gl 16)) := zS_lald d55_15
theorem v55_16 (L : Nat) (xs : Nat → Int32) : zVal L xs 55 16 (.inl (i_ll 1 17)) := zS_lload_n d55_16 rfl
theorem v55_17 (L : Nat) (xs : Nat → Int32) : zVal L xs 55 17 (.inl (i_cl 18)) := zS_lcmp d55_17
theorem v55_18 (L : Nat) (xs : Nat → Int32) : zVal L xs 55 18 (.inl (i_f1 (fun x => decide (¬ x = 0)) 23 21)) := zS_if_ne d55_18 (by decide)
theorem v55_21 (L : Nat) (xs : Nat → Int32) : zVal L xs 55 21 (.inl (i_il 3 22)) := zS_iload_n d55_21 rfl
theorem v55_22 (L : Nat) (xs : Nat → Int32) : zVal L xs 55 22 (.inr (.inr 1)) := zr_1 d55_22 rfl
theorem v55_23 (L : Nat) (xs : Nat → Int32) : zVal L xs 55 23 (.inl (i_in 3 1 26)) := zS_iinc d55_23 (by decide)
theorem v55_26 (L : Nat) (xs : Nat → Int32) : zVal L xs 55 26 (.inl (i_go 2)) := zS_goto d55_26 (by decide)
theorem v55_29 (L : Nat) (xs : Nat → Int32) : zVal L xs 55 29 (.inl (i_al 0 30)) := zS_aload_n d55_29 rfl
theorem v55_30 (L : Nat) (xs : Nat → Int32) : zVal L xs 55 30 (.inl (i_gf 5 4 33)) := zS_getf d55_30 (zcl5) (by decide) zi5 w288
theorem v55_33 (L : Nat) (xs : Nat → Int32) : zVal L xs 55 33 (.inr (.inr 1)) := zr_1 d55_33 rfl
theorem vt55 (L : Nat) (xs : Nat → Int32) : zAll (fun x => zVal L xs 55 x.1 x.2) (tb55) := ⟨v55_0 L xs, v55_1 L xs, v55_2 L xs, v55_3 L xs, v55_4 L xs, v55_7 L xs, v55_10 L xs, v55_11 L xs, v55_14 L xs, v55_15 L xs, v55_16 L xs, v55_17 L xs, v55_18 L xs, v55_21 L xs, v55_22 L xs, v55_23 L xs, v55_26 L xs, v55_29 L xs, v55_30 L xs, v55_33 L xs, trivial⟩
theorem d56_0 : decode (mB 56) 0 = .ok (.iload_n 2, 1) := by decide +kernel
theorem d56_1 : decode (mB 56) 1 = .ok (.iconst 1, 1) := by decide +kernel
theorem d56_2 : decode (mB 56) 2 = .ok (.if_icmp .lt 9, 3) := by decide +kernel
theorem d56_5 : decode (mB 56) 5 = .ok (.iload_n 2, 1) := by decide +kernel
theorem d56_6 : decode (mB 56) 6 = .ok (.bipush 6, 2) := by decide +kernel
theorem d56_8 : decode (mB 56) 8 = .ok (.if_icmp .le 5, 3) := by decide +kernel
theorem d56_11 : decode (mB 56) 11 = .ok (.iconst 0, 1) := by decide +kernel
theorem d56_12 : decode (mB 56) 12 = .ok (.ireturn, 1) := by decide +kernel
theorem d56_13 : decode (mB 56) 13 = .ok (.iconst 0, 1) := by decide +kernel
theorem d56_14 : decode (mB 56) 14 = .ok (.istore_n 3, 1) := by decide +kernel
theorem d56_15 : decode (mB 56) 15 = .ok (.iconst 0, 1) := by decide +kernel
theorem d56_16 : decode (mB 56) 16 = .ok (.istore 4, 2) := by decide +kernel
theorem d56_18 : decode (mB 56) 18 = .ok (.iload 4, 2) := by decide +kernel
theorem d56_20 : decode (mB 56) 20 = .ok (.iload_n 2, 1) := by decide +kernel
theorem d56_21 : decode (mB 56) 21 = .ok (.if_icmp .ge 65, 3) := by decide +kernel
theorem d56_24 : decode (mB 56) 24 = .ok (.lload_n 0, 1) := by decide +kernel
theorem d56_25 : decode (mB 56) 25 = .ok (.iload_n 2, 1) := by decide +kernel
theorem d56_26 : decode (mB 56) 26 = .ok (.iload 4, 2) := by decide +kernel
theorem d56_28 : decode (mB 56) 28 = .ok (.invokestatic 63, 3) := by decide +kernel
theorem d56_31 : decode (mB 56) 31 = .ok (.istore 5, 2) := by decide +kernel
theorem d56_33 : decode (mB 56) 33 = .ok (.iload 4, 2) := by decide +kernel
theorem d56_35 : decode (mB 56) 35 = .ok (.ifCond .eq 11, 3) := by decide +kernel
theorem d56_38 : decode (mB 56) 38 = .ok (.iload 4, 2) := by decide +kernel
theorem d56_40 : decode (mB 56) 40 = .ok (.iload_n 2, 1) := by decide +kernel
theorem d56_41 : decode (mB 56) 41 = .ok (.iconst 1, 1) := by decide +kernel
theorem d56_42 : decode (mB 56) 42 = .ok (.isub, 1) := by decide +kernel
theorem d56_43 : decode (mB 56) 43 = .ok (.if_icmp .ne 7, 3) := by decide +kernel
theorem d56_46 : decode (mB 56) 46 = .ok (.iconst 1, 1) := by decide +kernel
theorem d56_47 : decode (mB 56) 47 = .ok (.goto 4, 3) := by decide +kernel
theorem d56_50 : decode (mB 56) 50 = .ok (.iconst 0, 1) := by decide +kernel
theorem d56_51 : decode (mB 56) 51 = .ok (.istore 6, 2) := by decide +kernel
theorem d56_53 : decode (mB 56) 53 = .ok (.iload 5, 2) := by decide +kernel
theorem d56_55 : decode (mB 56) 55 = .ok (.invokestatic 67, 3) := by decide +kernel
theorem d56_58 : decode (mB 56) 58 = .ok (.ifCond .eq 8, 3) := by decide +kernel
theorem d56_61 : decode (mB 56) 61 = .ok (.iconst 1, 1) := by decide +kernel
theorem d56_62 : decode (mB 56) 62 = .ok (.istore_n 3, 1) := by decide +kernel
theorem d56_63 : decode (mB 56) 63 = .ok (.goto 17, 3) := by decide +kernel
theorem d56_66 : decode (mB 56) 66 = .ok (.iload 5, 2) := by decide +kernel
theorem d56_68 : decode (mB 56) 68 = .ok (.bipush 46, 2) := by decide +kernel
theorem d56_70 : decode (mB 56) 70 = .ok (.if_icmp .ne 8, 3) := by decide +kernel
theorem d56_73 : decode (mB 56) 73 = .ok (.iload 6, 2) := by decide +kernel
theorem d56_75 : decode (mB 56) 75 = .ok (.ifCond .ne 5, 3) := by decide +kernel
theorem d56_78 : decode (mB 56) 78 = .ok (.iconst 0, 1) := by decide +kernel
theorem d56_79 : decode (mB 56) 79 = .ok (.ireturn, 1) := by decide +kernel
theorem d56_80 : decode (mB 56) 80 = .ok (.iinc 4 1, 3) := by decide +kernel
theorem d56_83 : decode (mB 56) 83 = .ok (.goto (-65), 3) := by decide +kernel
theorem d56_86 : decode (mB 56) 86 = .ok (.iload_n 3, 1) := by decide +kernel
theorem d56_87 : decode (mB 56) 87 = .ok (.ireturn, 1) := by decide +kernel
theorem v56_0 (L : Nat) (xs : Nat → Int32) : zVal L xs 56 0 (.inl (i_il 2 1)) := zS_iload_n d56_0 rfl
theorem v56_1 (L : Nat) (xs : Nat → Int32) : zVal L xs 56 1 (.inl (i_c (.int 1) 2)) := zS_iconst d56_1 (by decide)
theorem v56_2 (L : Nat) (xs : Nat → Int32) : zVal L xs 56 2 (.inl (i_f2 (fun x y => decide (x < y)) 11 5)) := zS_icmp_lt d56_2 (by decide)
theorem v56_5 (L : Nat) (xs : Nat → Int32) : zVal L xs 56 5 (.inl (i_il 2 6)) := zS_iload_n d56_5 rfl
theorem v56_6 (L : Nat) (xs : Nat → Int32) : zVal L xs 56 6 (.inl (i_c (.int 6) 8)) := zS_bipush d56_6 (by decide)
theorem v56_8 (L : Nat) (xs : Nat → Int32) : zVal L xs 56 8 (.inl (i_f2 (fun x y => decide (x ≤ y)) 13 11)) := zS_icmp_le d56_8 (by decide)
theorem v56_11 (L : Nat) (xs : Nat → Int32) : zVal L xs 56 11 (.inl (i_k [true, true, true, true, true, true, true] (i_c (.int 0) 12))) := zS_k (zS_iconst d56_11 (by decide))
theorem v56_12 (L : Nat) (xs : Nat → Int32) : zVal L xs 56 12 (.inr (.inr 2)) := zr_2 d56_12 rfl
theorem v56_13 (L : Nat) (xs : Nat → Int32) : zVal L xs 56 13 (.inl (i_c (.int 0) 14)) := zS_iconst d56_13 (by decide)
theorem v56_14 (L : Nat) (xs : Nat → Int32) : zVal L xs 56 14 (.inl (i_is 3 15)) := zS_istore_n d56_14 rfl
theorem v56_15 (L : Nat) (xs : Nat → Int32) : zVal L xs 56 15 (.inl (i_c (.int 0) 16)) := zS_iconst d56_15 (by decide)
theorem v56_16 (L : Nat) (xs : Nat → Int32) : zVal L xs 56 16 (.inl (i_is 4 18)) := zS_istore d56_16
theorem v56_18 (L : Nat) (xs : Nat → Int32) : zVal L xs 56 18 (.inl (i_k [false, true, false, false, false, true, true] (i_il 4 20))) := zS_k (zS_iload d56_18)
theorem v56_20 (L : Nat) (xs : Nat → Int32) : zVal L xs 56 20 (.inl (i_il 2 21)) := zS_iload_n d56_20 rfl
theorem v56_21 (L : Nat) (xs : Nat → Int32) : zVal L xs 56 21 (.inl (i_f2 (fun x y => decide (y ≤ x)) 86 24)) := zS_icmp_ge d56_21 (by decide)
theorem v56_24 (L : Nat) (xs : Nat → Int32) : zVal L xs 56 24 (.inl (i_ll 0 25)) := zS_lload_n d56_24 rfl
theorem v56_25 (L : Nat) (xs : Nat → Int32) : zVal L xs 56 25 (.inl (i_il 2 26)) := zS_iload_n d56_25 rfl
theorem v56_26 (L : Nat) (xs : Nat → Int32) : zVal L xs 56 26 (.inl (i_il 4 28)) := zS_iload d56_26
theorem v56_28 (L : Nat) (xs : Nat → Int32) : zVal L xs 56 28 (.inr (.inl (21, 3, 0))) := ⟨by decide +kernel, by decide +kernel, zc_staticN (host := "EditionGrid") d56_28 w451 (by decide +kernel) w450 w73 ⟨by decide +kernel, by decide +kernel, by decide +kernel⟩ (by decide) (by decide)⟩
theorem v56_31 (L : Nat) (xs : Nat → Int32) : zVal L xs 56 31 (.inl (i_is 5 33)) := zS_istore d56_31
theorem v56_33 (L : Nat) (xs : Nat → Int32) : zVal L xs 56 33 (.inl (i_il 4 35)) := zS_iload d56_33
theorem v56_35 (L : Nat) (xs : Nat → Int32) : zVal L xs 56 35 (.inl (i_f1 (fun x => decide (x = 0)) 46 38)) := zS_if_eq d56_35 (by decide)
theorem v56_38 (L : Nat) (xs : Nat → Int32) : zVal L xs 56 38 (.inl (i_il 4 40)) := zS_iload d56_38
theorem v56_40 (L : Nat) (xs : Nat → Int32) : zVal L xs 56 40 (.inl (i_il 2 41)) := zS_iload_n d56_40 rfl
theorem v56_41 (L : Nat) (xs : Nat → Int32) : zVal L xs 56 41 (.inl (i_c (.int 1) 42)) := zS_iconst d56_41 (by decide)
theorem v56_42 (L : Nat) (xs : Nat → Int32) : zVal L xs 56 42 (.inl (i_bi (fun x y => x - y) 43)) := zS_isub d56_42
theorem v56_43 (L : Nat) (xs : Nat → Int32) : zVal L xs 56 43 (.inl (i_f2 (fun x y => decide (¬ x = y)) 50 46)) := zS_icmp_ne d56_43 (by decide)
theorem v56_46 (L : Nat) (xs : Nat → Int32) : zVal L xs 56 46 (.inl (i_k [false, true, false, false, false, false, true] (i_c (.int 1) 47))) := zS_k (zS_iconst d56_46 (by decide))
theorem v56_47 (L : Nat) (xs : Nat → Int32) : zVal L xs 56 47 (.inl (i_go 51)) := zS_goto d56_47 (by decide)
theorem v56_50 (L : Nat) (xs : Nat → Int32) : zVal L xs 56 50 (.inl (i_c (.int 0) 51)) := zS_iconst d56_50 (by decide)
theorem v56_51 (L : Nat) (xs : Nat → Int32) : zVal L xs 56 51 (.inl (i_k [false, true, false, false, false, false, true] (i_is 6 53))) := zS_k (zS_istore d56_51)
theorem v56_53 (L : Nat) (xs : Nat → Int32) : zVal L xs 56 53 (.inl (i_il 5 55)) := zS_iload d56_53
theorem v56_55 (L : Nat) (xs : Nat → Int32) : zVal L xs 56 55 (.inr (.inl (19, 1, 0))) := ⟨by decide +kernel, by decide +kernel, zc_staticN (host := "EditionGrid") d56_55 w437 (by decide +kernel) w436 w73 ⟨by decide +kernel, by decide +kernel, by decide +kernel⟩ (by decide) (by decide)⟩
theorem v56_58 (L : Nat) (xs : Nat → Int32) : zVal L xs 56 58 (.inl (i_f1 (fun x => decide (x = 0)) 66 61)) := zS_if_eq d56_58 (by decide)
theorem v56_61 (L : Nat) (xs : Nat → Int32) : zVal L xs 56 61 (.inl (i_c (.int 1) 62)) := zS_iconst d56_61 (by decide)
theorem v56_62 (L : Nat) (xs : Nat → Int32) : zVal L xs 56 62 (.inl (i_is 3 63)) := zS_istore_n d56_62 rfl
theorem v56_63 (L : Nat) (xs : Nat → Int32) : zVal L xs 56 63 (.inl (i_go 80)) := zS_goto d56_63 (by decide)
theorem v56_66 (L : Nat) (xs : Nat → Int32) : zVal L xs 56 66 (.inl (i_il 5 68)) := zS_iload d56_66
theorem v56_68 (L : Nat) (xs : Nat → Int32) : zVal L xs 56 68 (.inl (i_c (.int 46) 70)) := zS_bipush d56_68 (by decide)
theorem v56_70 (L : Nat) (xs : Nat → Int32) : zVal L xs 56 70 (.inl (i_f2 (fun x y => decide (¬ x = y)) 78 73)) := zS_icmp_ne d56_70 (by decide)
theorem v56_73 (L : Nat) (xs : Nat → Int32) : zVal L xs 56 73 (.inl (i_il 6 75)) := zS_iload d56_73
theorem v56_75 (L : Nat) (xs : Nat → Int32) : zVal L xs 56 75 (.inl (i_f1 (fun x => decide (¬ x = 0)) 80 78)) := zS_if_ne d56_75 (by decide)
theorem v56_78 (L : Nat) (xs : Nat → Int32) : zVal L xs 56 78 (.inl (i_k [true, true, true, true, true, true, true] (i_c (.int 0) 79))) := zS_k (zS_iconst d56_78 (by decide))
theorem v56_79 (L : Nat) (xs : Nat → Int32) : zVal L xs 56 79 (.inr (.inr 2)) := zr_2 d56_79 rfl
theorem v56_80 (L : Nat) (xs : Nat → Int32) : zVal L xs 56 80 (.inl (i_k [false, true, false, false, false, true, true] (i_in 4 1 83))) := zS_k (zS_iinc d56_80 (by decide))
theorem v56_83 (L : Nat) (xs : Nat → Int32) : zVal L xs 56 83 (.inl (i_go 18)) := zS_goto d56_83 (by decide)
theorem v56_86 (L : Nat) (xs : Nat → Int32) : zVal L xs 56 86 (.inl (i_il 3 87)) := zS_iload_n d56_86 rfl
theorem v56_87 (L : Nat) (xs : Nat → Int32) : zVal L xs 56 87 (.inr (.inr 2)) := zr_2 d56_87 rfl
theorem vt56 (L : Nat) (xs : Nat → Int32) : zAll (fun x => zVal L xs 56 x.1 x.2) (tb56) := ⟨v56_0 L xs, v56_1 L xs, v56_2 L xs, v56_5 L xs, v56_6 L xs, v56_8 L xs, v56_11 L xs, v56_12 L xs, v56_13 L xs, v56_14 L xs, v56_15 L xs, v56_16 L xs, v56_18 L xs, v56_20 L xs, v56_21 L xs, v56_24 L xs, v56_25 L xs, v56_26 L xs, v56_28 L xs, v56_31 L xs, v56_33 L xs, v56_35 L xs, v56_38 L xs, v56_40 L xs, v56_41 L xs, v56_42 L xs, v56_43 L xs, v56_46 L xs, v56_47 L xs, v56_50 L xs, v56_51 L xs, v56_53 L xs, v56_55 L xs, v56_58 L xs, v56_61 L xs, v56_62 L xs, v56_63 L xs, v56_66 L xs, v56_68 L xs, v56_70 L xs, v56_73 L xs, v56_75 L xs, v56_78 L xs, v56_79 L xs, v56_80 L xs, v56_83 L xs, v56_86 L xs, v56_87 L xs, trivial⟩
