theorem d113_0 : decode (mB 113) 0 = .ok (.aload_n 0, 1) := by decide +kernel
theorem d113_1 : decode (mB 113) 1 = .ok (.invokevirtual 162, 3) := by decide +kernel
theorem d113_4 : decode (mB 113) 4 = .ok (.bipush 61, 2) := by decide +kernel
theorem d113_6 : decode (mB 113) 6 = .ok (.if_icmp .ne 11, 3) := by decide +kernel
theorem d113_9 : decode (mB 113) 9 = .ok (.aload_n 0, 1) := by decide +kernel
theorem d113_10 : decode (mB 113) 10 = .ok (.iload_n 1, 1) := by decide +kernel
theorem d113_11 : decode (mB 113) 11 = .ok (.invokevirtual 176, 3) := by decide +kernel
theorem d113_14 : decode (mB 113) 14 = .ok (.goto 56, 3) := by decide +kernel
theorem d113_17 : decode (mB 113) 17 = .ok (.aload_n 0, 1) := by decide +kernel
theorem d113_18 : decode (mB 113) 18 = .ok (.invokevirtual 162, 3) := by decide +kernel
theorem d113_21 : decode (mB 113) 21 = .ok (.invokestatic 123, 3) := by decide +kernel
theorem d113_24 : decode (mB 113) 24 = .ok (.ifCond .eq 42, 3) := by decide +kernel
theorem d113_27 : decode (mB 113) 27 = .ok (.aload_n 0, 1) := by decide +kernel
theorem d113_28 : decode (mB 113) 28 = .ok (.getfield 43, 3) := by decide +kernel
theorem d113_31 : decode (mB 113) 31 = .ok (.iload_n 1, 1) := by decide +kernel
theorem d113_32 : decode (mB 113) 32 = .ok (.iaload, 1) := by decide +kernel
theorem d113_33 : decode (mB 113) 33 = .ok (.iconst 4, 1) := by decide +kernel
theorem d113_34 : decode (mB 113) 34 = .ok (.if_icmp .ge 32, 3) := by decide +kernel
theorem d113_37 : decode (mB 113) 37 = .ok (.aload_n 0, 1) := by decide +kernel
theorem d113_38 : decode (mB 113) 38 = .ok (.iconst 4, 1) := by decide +kernel
theorem d113_39 : decode (mB 113) 39 = .ok (.iload_n 1, 1) := by decide +kernel
theorem d113_40 : decode (mB 113) 40 = .ok (.imul, 1) := by decide +kernel
theorem d113_41 : decode (mB 113) 41 = .ok (.aload_n 0, 1) := by decide +kernel
theorem d113_42 : decode (mB 113) 42 = .ok (.getfield 43, 3) := by decide +kernel
theorem d113_45 : decode (mB 113) 45 = .ok (.iload_n 1, 1) := by decide +kernel
theorem d113_46 : decode (mB 113) 46 = .ok (.iaload, 1) := by decide +kernel
theorem d113_47 : decode (mB 113) 47 = .ok (.iadd, 1) := by decide +kernel
theorem d113_48 : decode (mB 113) 48 = .ok (.bipush 16, 2) := by decide +kernel
theorem d113_50 : decode (mB 113) 50 = .ok (.invokevirtual 179, 3) := by decide +kernel
theorem d113_53 : decode (mB 113) 53 = .ok (.aload_n 0, 1) := by decide +kernel
theorem d113_54 : decode (mB 113) 54 = .ok (.getfield 43, 3) := by decide +kernel
theorem d113_57 : decode (mB 113) 57 = .ok (.iload_n 1, 1) := by decide +kernel
theorem d113_58 : decode (mB 113) 58 = .ok (.dup2, 1) := by decide +kernel
theorem d113_59 : decode (mB 113) 59 = .ok (.iaload, 1) := by decide +kernel
theorem d113_60 : decode (mB 113) 60 = .ok (.iconst 1, 1) := by decide +kernel
theorem d113_61 : decode (mB 113) 61 = .ok (.iadd, 1) := by decide +kernel
theorem d113_62 : decode (mB 113) 62 = .ok (.iastore, 1) := by decide +kernel
theorem d113_63 : decode (mB 113) 63 = .ok (.goto 7, 3) := by decide +kernel
theorem d113_66 : decode (mB 113) 66 = .ok (.aload_n 0, 1) := by decide +kernel
theorem d113_67 : decode (mB 113) 67 = .ok (.invokevirtual 166, 3) := by decide +kernel
theorem d113_70 : decode (mB 113) 70 = .ok (.return_, 1) := by decide +kernel
theorem v113_0 (L : Nat) (xs : Nat → Int32) : zVal L xs 113 0 (.inl (i_al 0 1)) := zS_aload_n d113_0 rfl
theorem v113_1 (L : Nat) (xs : Nat → Int32) : zVal L xs 113 1 (.inr (.inl (107, 1, 11))) := ⟨by decide +kernel, by decide +kernel, zc_virt d113_1 zcl10 w979 w976 w978 w41 w85 ⟨by decide +kernel, by decide +kernel, by decide +kernel⟩ (by decide) (by decide)⟩
theorem v113_4 (L : Nat) (xs : Nat → Int32) : zVal L xs 113 4 (.inl (i_c (.int 61) 6)) := zS_bipush d113_4 (by decide)
theorem v113_6 (L : Nat) (xs : Nat → Int32) : zVal L xs 113 6 (.inl (i_f2 (fun x y => decide (¬ x = y)) 17 9)) := zS_icmp_ne d113_6 (by decide)
theorem v113_9 (L : Nat) (xs : Nat → Int32) : zVal L xs 113 9 (.inl (i_al 0 10)) := zS_aload_n d113_9 rfl
theorem v113_10 (L : Nat) (xs : Nat → Int32) : zVal L xs 113 10 (.inl (i_il 1 11)) := zS_iload_n d113_10 rfl
theorem v113_11 (L : Nat) (xs : Nat → Int32) : zVal L xs 113 11 (.inr (.inl (112, 2, 11))) := ⟨by decide +kernel, by decide +kernel, zc_virt d113_11 zcl10 w1003 w1000 w1002 w47 w85 ⟨by decide +kernel, by decide +kernel, by decide +kernel⟩ (by decide) (by decide)⟩
theorem v113_14 (L : Nat) (xs : Nat → Int32) : zVal L xs 113 14 (.inl (i_go 70)) := zS_goto d113_14 (by decide)
theorem v113_17 (L : Nat) (xs : Nat → Int32) : zVal L xs 113 17 (.inl (i_al 0 18)) := zS_aload_n d113_17 rfl
theorem v113_18 (L : Nat) (xs : Nat → Int32) : zVal L xs 113 18 (.inr (.inl (107, 1, 11))) := ⟨by decide +kernel, by decide +kernel, zc_virt d113_18 zcl10 w979 w976 w978 w41 w85 ⟨by decide +kernel, by decide +kernel, by decide +kernel⟩ (by decide) (by decide)⟩
theorem v113_21 (L : Nat) (xs : Nat → Int32) : zVal L xs 113 21 (.inr (.inl (95, 1, 0))) := ⟨by decide +kernel, by decide +kernel, zc_static d113_21 w924 w922 w923 w85 ⟨by decide +kernel, by decide +kernel, by decide +kernel⟩ (by decide) (by decide)⟩
theorem v113_24 (L : Nat) (xs : Nat → Int32) : zVal L xs 113 24 (.inl (i_f1 (fun x => decide (x = 0)) 66 27)) := zS_if_eq d113_24 (by decide)
theorem v113_27 (L : Nat) (xs : Nat → Int32) : zVal L xs 113 27 (.inl (i_al 0 28)) := zS_aload_n d113_27 rfl
theorem v113_28 (L : Nat) (xs : Nat → Int32) : zVal L xs 113 28 (.inl (i_gf 10 17 31)) := zS_getf d113_28 (zcl10) (by decide) zi10 w795
theorem v113_31 (L : Nat) (xs : Nat → Int32) : zVal L xs 113 31 (.inl (i_il 1 32)) := zS_iload_n d113_31 rfl
theorem v113_32 (L : Nat) (xs : Nat → Int32) : zVal L xs 113 32 (.inl (i_ga 0 33)) := zS_iald d113_32
theorem v113_33 (L : Nat) (xs : Nat → Int32) : zVal L xs 113 33 (.inl (i_c (.int 4) 34)) := zS_iconst d113_33 (by decide)
theorem v113_34 (L : Nat) (xs : Nat → Int32) : zVal L xs 113 34 (.inl (i_f2 (fun x y => decide (y ≤ x)) 66 37)) := zS_icmp_ge d113_34 (by decide)
theorem v113_37 (L : Nat) (xs : Nat → Int32) : zVal L xs 113 37 (.inl (i_al 0 38)) := zS_aload_n d113_37 rfl
theorem v113_38 (L : Nat) (xs : Nat → Int32) : zVal L xs 113 38 (.inl (i_c (.int 4) 39)) := zS_iconst d113_38 (by decide)
theorem v113_39 (L : Nat) (xs : Nat → Int32) : zVal L xs 113 39 (.inl (i_il 1 40)) := zS_iload_n d113_39 rfl
theorem v113_40 (L : Nat) (xs : Nat → Int32) : zVal L xs 113 40 (.inl (i_bi (fun x y => x * y) 41)) := zS_imul d113_40
theorem v113_41 (L : Nat) (xs : Nat → Int32) : zVal L xs 113 41 (.inl (i_al 0 42)) := zS_aload_n d113_41 rfl
theorem v113_42 (L : Nat) (xs : Nat → Int32) : zVal L xs 113 42 (.inl (i_gf 10 17 45)) := zS_getf d113_42 (zcl10) (by decide) zi10 w795
theorem v113_45 (L : Nat) (xs : Nat → Int32) : zVal L xs 113 45 (.inl (i_il 1 46)) := zS_iload_n d113_45 rfl
theorem v113_46 (L : Nat) (xs : Nat → Int32) : zVal L xs 113 46 (.inl (i_ga 0 47)) := zS_iald d113_46
theorem v113_47 (L : Nat) (xs : Nat → Int32) : zVal L xs 113 47 (.inl (i_bi (fun x y => x + y) 48)) := zS_iadd d113_47
theorem v113_48 (L : Nat) (xs : Nat → Int32) : zVal L xs 113 48 (.inl (i_c (.int 16) 50)) := zS_bipush d113_48 (by decide)
theorem v113_50 (L : Nat) (xs : Nat → Int32) : zVal L xs 113 50 (.inr (.inl (111, 3, 11))) := ⟨by decide +kernel, by decide +kernel, zc_virt d113_50 zcl10 w991 w988 w990 w44 w85 ⟨by decide +kernel, by decide +kernel, by decide +kernel⟩ (by decide) (by decide)⟩
theorem v113_53 (L : Nat) (xs : Nat → Int32) : zVal L xs 113 53 (.inl (i_al 0 54)) := zS_aload_n d113_53 rfl
theorem v113_54 (L : Nat) (xs : Nat → Int32) : zVal L xs 113 54 (.inl (i_gf 10 17 57)) := zS_getf d113_54 (zcl10) (by decide) zi10 w795
theorem v113_57 (L : Nat) (xs : Nat → Int32) : zVal L xs 113 57 (.inl (i_il 1 58)) := zS_iload_n d113_57 rfl
theorem v113_58 (L : Nat) (xs : Nat → Int32) : zVal L xs 113 58 (.inl (i_d2 59)) := zS_dup2 d113_58
theorem v113_59 (L : Nat) (xs : Nat → Int32) : zVal L xs 113 59 (.inl (i_ga 0 60)) := zS_iald d113_59
theorem v113_60 (L : Nat) (xs : Nat → Int32) : zVal L xs 113 60 (.inl (i_c (.int 1) 61)) := zS_iconst d113_60 (by decide)
theorem v113_61 (L : Nat) (xs : Nat → Int32) : zVal L xs 113 61 (.inl (i_bi (fun x y => x + y) 62)) := zS_iadd d113_61
theorem v113_62 (L : Nat) (xs : Nat → Int32) : zVal L xs 113 62 (.inl (i_pa 0 (fun x => x) 63)) := zS_iast d113_62
theorem v113_63 (L : Nat) (xs : Nat → Int32) : zVal L xs 113 63 (.inl (i_go 70)) := zS_goto d113_63 (by decide)
theorem v113_66 (L : Nat) (xs : Nat → Int32) : zVal L xs 113 66 (.inl (i_k [false, true] (i_al 0 67))) := zS_k (zS_aload_n d113_66 rfl)
theorem v113_67 (L : Nat) (xs : Nat → Int32) : zVal L xs 113 67 (.inr (.inl (108, 1, 11))) := ⟨by decide +kernel, by decide +kernel, zc_virt d113_67 zcl10 w983 w980 w982 w42 w85 ⟨by decide +kernel, by decide +kernel, by decide +kernel⟩ (by decide) (by decide)⟩
theorem v113_70 (L : Nat) (xs : Nat → Int32) : zVal L xs 113 70 (.inr (.inr 0)) := zr_0 d113_70 rfl
theorem vt113 (L : Nat) (xs : Nat → Int32) : zAll (fun x => zVal L xs 113 x.1 x.2) (tb113) := ⟨v113_0 L xs, v113_1 L xs, v113_4 L xs, v113_6 L xs, v113_9 L xs, v113_10 L xs, v113_11 L xs, v113_14 L xs, v113_17 L xs, v113_18 L xs, v113_21 L xs, v113_24 L xs, v113_27 L xs, v113_28 L xs, v113_31 L xs, v113_32 L xs, v113_33 L xs, v113_34 L xs, v113_37 L xs, v113_38 L xs, v113_39 L xs, v113_40 L xs, v113_41 L xs, v113_42 L xs, v113_45 L xs, v113_46 L xs, v113_47 L xs, v113_48 L xs, v113_50 L xs, v113_53 L xs, v113_54 L xs, v113_57 L xs, v113_58 L xs, v113_59 L xs, v113_60 L xs, v113_61 L xs, v113_62 L xs, v113_63 L xs, v113_66 L xs, v113_67 L xs, v113_70 L xs, trivial⟩
theorem d114_0 : decode (mB 114) 0 = .ok (.aload_n 0, 1) := by decide +kernel
theorem d114_1 : decode (mB 114) 1 = .ok (.invokevirtual 162, 3) := by decide +kernel
theorem d114_4 : decode (mB 114) 4 = .ok (.bipush 35, 2) := by decide +kernel
theorem d114_6 : decode (mB 114) 6 = .ok (.if_icmp .ne 11, 3) := by decide +kernel
theorem d114_9 : decode (mB 114) 9 = .ok (.aload_n 0, 1) := by decide +kernel
theorem d114_10 : decode (mB 114) 10 = .ok (.getfield 183, 3) := by decide +kernel
theorem d114_13 : decode (mB 114) 13 = .ok (.iconst 4, 1) := by decide +kernel
theorem d114_14 : decode (mB 114) 14 = .ok (.if_icmp .ne 8, 3) := by decide +kernel
theorem d114_17 : decode (mB 114) 17 = .ok (.aload_n 0, 1) := by decide +kernel
theorem d114_18 : decode (mB 114) 18 = .ok (.invokevirtual 166, 3) := by decide +kernel
theorem d114_21 : decode (mB 114) 21 = .ok (.return_, 1) := by decide +kernel
theorem d114_22 : decode (mB 114) 22 = .ok (.aload_n 0, 1) := by decide +kernel
theorem d114_23 : decode (mB 114) 23 = .ok (.getfield 183, 3) := by decide +kernel
theorem d114_26 : decode (mB 114) 26 = .ok (.istore_n 1, 1) := by decide +kernel
theorem d114_27 : decode (mB 114) 27 = .ok (.aload_n 0, 1) := by decide +kernel
theorem d114_28 : decode (mB 114) 28 = .ok (.dup, 1) := by decide +kernel
theorem d114_29 : decode (mB 114) 29 = .ok (.getfield 159, 3) := by decide +kernel
theorem d114_32 : decode (mB 114) 32 = .ok (.iconst 1, 1) := by decide +kernel
theorem d114_33 : decode (mB 114) 33 = .ok (.iadd, 1) := by decide +kernel
theorem d114_34 : decode (mB 114) 34 = .ok (.putfield 159, 3) := by decide +kernel
theorem d114_37 : decode (mB 114) 37 = .ok (.aload_n 0, 1) := by decide +kernel
theorem d114_38 : decode (mB 114) 38 = .ok (.bipush 48, 2) := by decide +kernel
theorem d114_40 : decode (mB 114) 40 = .ok (.bipush 57, 2) := by decide +kernel
theorem d114_42 : decode (mB 114) 42 = .ok (.invokevirtual 172, 3) := by decide +kernel
theorem d114_45 : decode (mB 114) 45 = .ok (.istore_n 2, 1) := by decide +kernel
theorem d114_46 : decode (mB 114) 46 = .ok (.aload_n 0, 1) := by decide +kernel
theorem d114_47 : decode (mB 114) 47 = .ok (.getfield 34, 3) := by decide +kernel
theorem d114_50 : decode (mB 114) 50 = .ok (.iload_n 1, 1) := by decide +kernel
theorem d114_51 : decode (mB 114) 51 = .ok (.iload_n 2, 1) := by decide +kernel
theorem d114_52 : decode (mB 114) 52 = .ok (.bipush 48, 2) := by decide +kernel
theorem d114_54 : decode (mB 114) 54 = .ok (.isub, 1) := by decide +kernel
theorem d114_55 : decode (mB 114) 55 = .ok (.iastore, 1) := by decide +kernel
theorem d114_56 : decode (mB 114) 56 = .ok (.aload_n 0, 1) := by decide +kernel
theorem d114_57 : decode (mB 114) 57 = .ok (.getfield 37, 3) := by decide +kernel
theorem d114_60 : decode (mB 114) 60 = .ok (.iload_n 1, 1) := by decide +kernel
theorem d114_61 : decode (mB 114) 61 = .ok (.iconst 0, 1) := by decide +kernel
theorem d114_62 : decode (mB 114) 62 = .ok (.iastore, 1) := by decide +kernel
theorem d114_63 : decode (mB 114) 63 = .ok (.aload_n 0, 1) := by decide +kernel
theorem d114_64 : decode (mB 114) 64 = .ok (.getfield 40, 3) := by decide +kernel
theorem d114_67 : decode (mB 114) 67 = .ok (.iload_n 1, 1) := by decide +kernel
theorem d114_68 : decode (mB 114) 68 = .ok (.iconst 0, 1) := by decide +kernel
theorem d114_69 : decode (mB 114) 69 = .ok (.iastore, 1) := by decide +kernel
theorem d114_70 : decode (mB 114) 70 = .ok (.aload_n 0, 1) := by decide +kernel
theorem d114_71 : decode (mB 114) 71 = .ok (.getfield 43, 3) := by decide +kernel
theorem d114_74 : decode (mB 114) 74 = .ok (.iload_n 1, 1) := by decide +kernel
theorem d114_75 : decode (mB 114) 75 = .ok (.iconst 0, 1) := by decide +kernel
theorem d114_76 : decode (mB 114) 76 = .ok (.iastore, 1) := by decide +kernel
theorem d114_77 : decode (mB 114) 77 = .ok (.aload_n 0, 1) := by decide +kernel
theorem d114_78 : decode (mB 114) 78 = .ok (.getfield 58, 3) := by decide +kernel
theorem d114_81 : decode (mB 114) 81 = .ok (.ifCond .ge 12, 3) := by decide +kernel
theorem d114_84 : decode (mB 114) 84 = .ok (.aload_n 0, 1) := by decide +kernel
theorem d114_85 : decode (mB 114) 85 = .ok (.bipush 16, 2) := by decide +kernel
theorem d114_87 : decode (mB 114) 87 = .ok (.iload_n 1, 1) := by decide +kernel
theorem d114_88 : decode (mB 114) 88 = .ok (.iadd, 1) := by decide +kernel
theorem d114_89 : decode (mB 114) 89 = .ok (.iconst 4, 1) := by decide +kernel
theorem d114_90 : decode (mB 114) 90 = .ok (.invokevirtual 179, 3) := by decide +kernel
theorem d114_93 : decode (mB 114) 93 = .ok (.iconst 1, 1) := by decide +kernel
theorem d114_94 : decode (mB 114) 94 = .ok (.istore_n 3, 1) := by decide +kernel
theorem d114_95 : decode (mB 114) 95 = .ok (.aload_n 0, 1) := by decide +kernel
theorem d114_96 : decode (mB 114) 96 = .ok (.getfield 58, 3) := by decide +kernel
theorem d114_99 : decode (mB 114) 99 = .ok (.ifCond .ge 41, 3) := by decide +kernel
theorem d114_102 : decode (mB 114) 102 = .ok (.iload_n 3, 1) := by decide +kernel
theorem d114_103 : decode (mB 114) 103 = .ok (.ifCond .eq 37, 3) := by decide +kernel
theorem d114_106 : decode (mB 114) 106 = .ok (.aload_n 0, 1) := by decide +kernel
theorem d114_107 : decode (mB 114) 107 = .ok (.iload_n 1, 1) := by decide +kernel
theorem d114_108 : decode (mB 114) 108 = .ok (.invokevirtual 186, 3) := by decide +kernel
theorem d114_111 : decode (mB 114) 111 = .ok (.aload_n 0, 1) := by decide +kernel
theorem d114_112 : decode (mB 114) 112 = .ok (.getfield 159, 3) := by decide +kernel
theorem d114_115 : decode (mB 114) 115 = .ok (.aload_n 0, 1) := by decide +kernel
theorem d114_116 : decode (mB 114) 116 = .ok (.getfield 156, 3) := by decide +kernel
theorem d114_119 : decode (mB 114) 119 = .ok (.if_icmp .ge 16, 3) := by decide +kernel
theorem d114_122 : decode (mB 114) 122 = .ok (.aload_n 0, 1) := by decide +kernel
theorem d114_123 : decode (mB 114) 123 = .ok (.invokevirtual 162, 3) := by decide +kernel
theorem d114_126 : decode (mB 114) 126 = .ok (.bipush 35, 2) := by decide +kernel
theorem d114_128 : decode (mB 114) 128 = .ok (.if_icmp .eq 7, 3) := by decide +kernel
theorem d114_131 : decode (mB 114) 131 = .ok (.iconst 1, 1) := by decide +kernel
theorem d114_132 : decode (mB 114) 132 = .ok (.goto 4, 3) := by decide +kernel
theorem d114_135 : decode (mB 114) 135 = .ok (.iconst 0, 1) := by decide +kernel
theorem d114_136 : decode (mB 114) 136 = .ok (.istore_n 3, 1) := by decide +kernel
theorem d114_137 : decode (mB 114) 137 = .ok (.goto (-42), 3) := by decide +kernel
theorem d114_140 : decode (mB 114) 140 = .ok (.aload_n 0, 1) := by decide +kernel
theorem d114_141 : decode (mB 114) 141 = .ok (.dup, 1) := by decide +kernel
theorem d114_142 : decode (mB 114) 142 = .ok (.getfield 183, 3) := by decide +kernel
theorem d114_145 : decode (mB 114) 145 = .ok (.iconst 1, 1) := by decide +kernel
theorem d114_146 : decode (mB 114) 146 = .ok (.iadd, 1) := by decide +kernel
theorem d114_147 : decode (mB 114) 147 = .ok (.putfield 183, 3) := by decide +kernel
theorem d114_150 : decode (mB 114) 150 = .ok (.return_, 1) := by decide +kernel
theorem v114_0 (L : Nat) (xs : Nat → Int32) : zVal L xs 114 0 (.inl (i_al 0 1)) := zS_aload_n d114_0 rfl
theorem v114_1 (L : Nat) (xs : Nat → Int32) : zVal L xs 114 1 (.inr (.inl (107, 1, 11))) := ⟨by decide +kernel, by decide +kernel, zc_virt d114_1 zcl10 w979 w976 w978 w41 w85 ⟨by decide +kernel, by decide +kernel, by decide +kernel⟩ (by decide) (by decide)⟩
theorem v114_4 (L : Nat) (xs : Nat → Int32) : zVal L xs 114 4 (.inl (i_c (.int 35) 6)) := zS_bipush d114_4 (by decide)
theorem v114_6 (L : Nat) (xs : Nat → Int32) : zVal L xs 114 6 (.inl (i_f2 (fun x y => decide (¬ x = y)) 17 9)) := zS_icmp_ne d114_6 (by decide)
theorem v114_9 (L : Nat) (xs : Nat → Int32) : zVal L xs 114 9 (.inl (i_al 0 10)) := zS_aload_n d114_9 rfl
theorem v114_10 (L : Nat) (xs : Nat → Int32) : zVal L xs 114 10 (.inl (i_gf 10 13 13)) := zS_getf d114_10 (zcl10) (by decide) zi10 w791
theorem v114_13 (L : Nat) (xs : Nat → Int32) : zVal L xs 114 13 (.inl (i_c (.int 4) 14)) := zS_iconst d114_13 (by decide)
theorem v114_14 (L : Nat) (xs : Nat → Int32) : zVal L xs 114 14 (.inl (i_f2 (fun x y => decide (¬ x = y)) 22 17)) := zS_icmp_ne d114_14 (by decide)
theorem v114_17 (L : Nat) (xs : Nat → Int32) : zVal L xs 114 17 (.inl (i_k [false, true, true, true] (i_al 0 18))) := zS_k (zS_aload_n d114_17 rfl)
theorem v114_18 (L : Nat) (xs : Nat → Int32) : zVal L xs 114 18 (.inr (.inl (108, 1, 11))) := ⟨by decide +kernel, by decide +kernel, zc_virt d114_18 zcl10 w983 w980 w982 w42 w85 ⟨by decide +kernel, by decide +kernel, by decide +kernel⟩ (by decide) (by decide)⟩
theorem v114_21 (L : Nat) (xs : Nat → Int32) : zVal L xs 114 21 (.inr (.inr 0)) := zr_0 d114_21 rfl
theorem v114_22 (L : Nat) (xs : Nat → Int32) : zVal L xs 114 22 (.inl (i_al 0 23)) := zS_aload_n d114_22 rfl
theorem v114_23 (L : Nat) (xs : Nat → Int32) : zVal L xs 114 23 (.inl (i_gf 10 13 26)) := zS_getf d114_23 (zcl10) (by decide) zi10 w791
theorem v114_26 (L : Nat) (xs : Nat → Int32) : zVal L xs 114 26 (.inl (i_is 1 27)) := zS_istore_n d114_26 rfl
theorem v114_27 (L : Nat) (xs : Nat → Int32) : zVal L xs 114 27 (.inl (i_al 0 28)) := zS_aload_n d114_27 rfl
theorem v114_28 (L : Nat) (xs : Nat → Int32) : zVal L xs 114 28 (.inl (i_dup 29)) := zS_dup d114_28
theorem v114_29 (L : Nat) (xs : Nat → Int32) : zVal L xs 114 29 (.inl (i_gf 10 22 32)) := zS_getf d114_29 (zcl10) (by decide) zi10 w800
theorem v114_32 (L : Nat) (xs : Nat → Int32) : zVal L xs 114 32 (.inl (i_c (.int 1) 33)) := zS_iconst d114_32 (by decide)
theorem v114_33 (L : Nat) (xs : Nat → Int32) : zVal L xs 114 33 (.inl (i_bi (fun x y => x + y) 34)) := zS_iadd d114_33
theorem v114_34 (L : Nat) (xs : Nat → Int32) : zVal L xs 114 34 (.inl (i_pf 10 22 okI 37)) := zS_putf (ty := .int) d114_34 (zcl10) (by decide) zi10 w800 zy10 zn10 (by decide +kernel) (by decide +kernel) okI_ok
theorem v114_37 (L : Nat) (xs : Nat → Int32) : zVal L xs 114 37 (.inl (i_al 0 38)) := zS_aload_n d114_37 rfl
theorem v114_38 (L : Nat) (xs : Nat → Int32) : zVal L xs 114 38 (.inl (i_c (.int 48) 40)) := zS_bipush d114_38 (by decide)
theorem v114_40 (L : Nat) (xs : Nat → Int32) : zVal L xs 114 40 (.inl (i_c (.int 57) 42)) := zS_bipush d114_40 (by decide)
theorem v114_42 (L : Nat) (xs : Nat → Int32) : zVal L xs 114 42 (.inr (.inl (109, 3, 11))) := ⟨by decide +kernel, by decide +kernel, zc_virt d114_42 zcl10 w987 w984 w986 w43 w85 ⟨by decide +kernel, by decide +kernel, by decide +kernel⟩ (by decide) (by decide)⟩
theorem v114_45 (L : Nat) (xs : Nat → Int32) : zVal L xs 114 45 (.inl (i_is 2 46)) := zS_istore_n d114_45 rfl
theorem v114_46 (L : Nat) (xs : Nat → Int32) : zVal L xs 114 46 (.inl (i_al 0 47)) := zS_aload_n d114_46 rfl
theorem v114_47 (L : Nat) (xs : Nat → Int32) : zVal L xs 114 47 (.inl (i_gf 10 14 50)) := zS_getf d114_47 (zcl10) (by decide) zi10 w792
theorem v114_50 (L : Nat) (xs : Nat → Int32) : zVal L xs 114 50 (.inl (i_il 1 51)) := zS_iload_n d114_50 rfl
theorem v114_51 (L : Nat) (xs : Nat → Int32) : zVal L xs 114 51 (.inl (i_il 2 52)) := zS_iload_n d114_51 rfl
theorem v114_52 (L : Nat) (xs : Nat → Int32) : zVal L xs 114 52 (.inl (i_c (.int 48) 54)) := zS_bipush d114_52 (by decide)
theorem v114_54 (L : Nat) (xs : Nat → Int32) : zVal L xs 114 54 (.inl (i_bi (fun x y => x - y) 55)) := zS_isub d114_54
theorem v114_55 (L : Nat) (xs : Nat → Int32) : zVal L xs 114 55 (.inl (i_pa 0 (fun x => x) 56)) := zS_iast d114_55
theorem v114_56 (L : Nat) (xs : Nat → Int32) : zVal L xs 114 56 (.inl (i_al 0 57)) := zS_aload_n d114_56 rfl
theorem v114_57 (L : Nat) (xs : Nat → Int32) : zVal L xs 114 57 (.inl (i_gf 10 15 60)) := zS_getf d114_57 (zcl10) (by decide) zi10 w793
theorem v114_60 (L : Nat) (xs : Nat → Int32) : zVal L xs 114 60 (.inl (i_il 1 61)) := zS_iload_n d114_60 rfl
theorem v114_61 (L : Nat) (xs : Nat → Int32) : zVal L xs 114 61 (.inl (i_c (.int 0) 62)) := zS_iconst d114_61 (by decide)
theorem v114_62 (L : Nat) (xs : Nat → Int32) : zVal L xs 114 62 (.inl (i_pa 0 (fun x => x) 63)) := zS_iast d114_62
theorem v114_63 (L : Nat) (xs : Nat → Int32) : zVal L xs 114 63 (.inl (i_al 0 64)) := zS_aload_n d114_63 rfl
theorem v114_64 (L : Nat) (xs : Nat → Int32) : zVal L xs 114 64 (.inl (i_gf 10 16 67)) := zS_getf d114_64 (zcl10) (by decide) zi10 w794
theorem v114_67 (L : Nat) (xs : Nat → Int32) : zVal L xs 114 67 (.inl (i_il 1 68)) := zS_iload_n d114_67 rfl
theorem v114_68 (L : Nat) (xs : Nat → Int32) : zVal L xs 114 68 (.inl (i_c (.int 0) 69)) := zS_iconst d114_68 (by decide)
theorem v114_69 (L : Nat) (xs : Nat → Int32) : zVal L xs 114 69 (.inl (i_pa 0 (fun x => x) 70)) := zS_iast d114_69
theorem v114_70 (L : Nat) (xs : Nat → Int32) : zVal L xs 114 70 (.inl (i_al 0 71)) := zS_aload_n d114_70 rfl
theorem v114_71 (L : Nat) (xs : Nat → Int32) : zVal L xs 114 71 (.inl (i_gf 10 17 74)) := zS_getf d114_71 (zcl10) (by decide) zi10 w795
theorem v114_74 (L : Nat) (xs : Nat → Int32) : zVal L xs 114 74 (.inl (i_il 1 75)) := zS_iload_n d114_74 rfl
theorem v114_75 (L : Nat) (xs : Nat → Int32) : zVal L xs 114 75 (.inl (i_c (.int 0) 76)) := zS_iconst d114_75 (by decide)
theorem v114_76 (L : Nat) (xs : Nat → Int32) : zVal L xs 114 76 (.inl (i_pa 0 (fun x => x) 77)) := zS_iast d114_76
theorem v114_77 (L : Nat) (xs : Nat → Int32) : zVal L xs 114 77 (.inl (i_al 0 78)) := zS_aload_n d114_77 rfl
theorem v114_78 (L : Nat) (xs : Nat → Int32) : zVal L xs 114 78 (.inl (i_gf 10 23 81)) := zS_getf d114_78 (zcl10) (by decide) zi10 w801
theorem v114_81 (L : Nat) (xs : Nat → Int32) : zVal L xs 114 81 (.inl (i_f1 (fun x => decide (0 ≤ x)) 93 84)) := zS_if_ge d114_81 (by decide)
theorem v114_84 (L : Nat) (xs : Nat → Int32) : zVal L xs 114 84 (.inl (i_al 0 85)) := zS_aload_n d114_84 rfl
theorem v114_85 (L : Nat) (xs : Nat → Int32) : zVal L xs 114 85 (.inl (i_c (.int 16) 87)) := zS_bipush d114_85 (by decide)
theorem v114_87 (L : Nat) (xs : Nat → Int32) : zVal L xs 114 87 (.inl (i_il 1 88)) := zS_iload_n d114_87 rfl
theorem v114_88 (L : Nat) (xs : Nat → Int32) : zVal L xs 114 88 (.inl (i_bi (fun x y => x + y) 89)) := zS_iadd d114_88
theorem v114_89 (L : Nat) (xs : Nat → Int32) : zVal L xs 114 89 (.inl (i_c (.int 4) 90)) := zS_iconst d114_89 (by decide)
theorem v114_90 (L : Nat) (xs : Nat → Int32) : zVal L xs 114 90 (.inr (.inl (111, 3, 11))) := ⟨by decide +kernel, by decide +kernel, zc_virt d114_90 zcl10 w991 w988 w990 w44 w85 ⟨by decide +kernel, by decide +kernel, by decide +kernel⟩ (by decide) (by decide)⟩
theorem v114_93 (L : Nat) (xs : Nat → Int32) : zVal L xs 114 93 (.inl (i_k [false, false, true, true] (i_c (.int 1) 94))) := zS_k (zS_iconst d114_93 (by decide))
theorem v114_94 (L : Nat) (xs : Nat → Int32) : zVal L xs 114 94 (.inl (i_is 3 95)) := zS_istore_n d114_94 rfl
theorem v114_95 (L : Nat) (xs : Nat → Int32) : zVal L xs 114 95 (.inl (i_k [false, false, true, false] (i_al 0 96))) := zS_k (zS_aload_n d114_95 rfl)
theorem v114_96 (L : Nat) (xs : Nat → Int32) : zVal L xs 114 96 (.inl (i_gf 10 23 99)) := zS_getf d114_96 (zcl10) (by decide) zi10 w801
theorem v114_99 (L : Nat) (xs : Nat → Int32) : zVal L xs 114 99 (.inl (i_f1 (fun x => decide (0 ≤ x)) 140 102)) := zS_if_ge d114_99 (by decide)
theorem v114_102 (L : Nat) (xs : Nat → Int32) : zVal L xs 114 102 (.inl (i_il 3 103)) := zS_iload_n d114_102 rfl
theorem v114_103 (L : Nat) (xs : Nat → Int32) : zVal L xs 114 103 (.inl (i_f1 (fun x => decide (x = 0)) 140 106)) := zS_if_eq d114_103 (by decide)
theorem v114_106 (L : Nat) (xs : Nat → Int32) : zVal L xs 114 106 (.inl (i_al 0 107)) := zS_aload_n d114_106 rfl
theorem v114_107 (L : Nat) (xs : Nat → Int32) : zVal L xs 114 107 (.inl (i_il 1 108)) := zS_iload_n d114_107 rfl
theorem v114_108 (L : Nat) (xs : Nat → Int32) : zVal L xs 114 108 (.inr (.inl (113, 2, 11))) := ⟨by decide +kernel, by decide +kernel, zc_virt d114_108 zcl10 w999 w996 w998 w46 w85 ⟨by decide +kernel, by decide +kernel, by decide +kernel⟩ (by decide) (by decide)⟩
theorem v114_111 (L : Nat) (xs : Nat → Int32) : zVal L xs 114 111 (.inl (i_al 0 112)) := zS_aload_n d114_111 rfl
theorem v114_112 (L : Nat) (xs : Nat → Int32) : zVal L xs 114 112 (.inl (i_gf 10 22 115)) := zS_getf d114_112 (zcl10) (by decide) zi10 w800
theorem v114_115 (L : Nat) (xs : Nat → Int32) : zVal L xs 114 115 (.inl (i_al 0 116)) := zS_aload_n d114_115 rfl
theorem v114_116 (L : Nat) (xs : Nat → Int32) : zVal L xs 114 116 (.inl (i_gf 10 12 119)) := zS_getf d114_116 (zcl10) (by decide) zi10 w790
theorem v114_119 (L : Nat) (xs : Nat → Int32) : zVal L xs 114 119 (.inl (i_f2 (fun x y => decide (y ≤ x)) 135 122)) := zS_icmp_ge d114_119 (by decide)
theorem v114_122 (L : Nat) (xs : Nat → Int32) : zVal L xs 114 122 (.inl (i_al 0 123)) := zS_aload_n d114_122 rfl
theorem v114_123 (L : Nat) (xs : Nat → Int32) : zVal L xs 114 123 (.inr (.inl (107, 1, 11))) := ⟨by decide +kernel, by decide +kernel, zc_virt d114_123 zcl10 w979 w976 w978 w41 w85 ⟨by decide +kernel, by decide +kernel, by decide +kernel⟩ (by decide) (by decide)⟩
theorem v114_126 (L : Nat) (xs : Nat → Int32) : zVal L xs 114 126 (.inl (i_c (.int 35) 128)) := zS_bipush d114_126 (by decide)
theorem v114_128 (L : Nat) (xs : Nat → Int32) : zVal L xs 114 128 (.inl (i_f2 (fun x y => decide (x = y)) 135 131)) := zS_icmp_eq d114_128 (by decide)
theorem v114_131 (L : Nat) (xs : Nat → Int32) : zVal L xs 114 131 (.inl (i_c (.int 1) 132)) := zS_iconst d114_131 (by decide)
theorem v114_132 (L : Nat) (xs : Nat → Int32) : zVal L xs 114 132 (.inl (i_go 136)) := zS_goto d114_132 (by decide)
theorem v114_135 (L : Nat) (xs : Nat → Int32) : zVal L xs 114 135 (.inl (i_k [false, false, true, true] (i_c (.int 0) 136))) := zS_k (zS_iconst d114_135 (by decide))
theorem v114_136 (L : Nat) (xs : Nat → Int32) : zVal L xs 114 136 (.inl (i_k [false, false, true, true] (i_is 3 137))) := zS_k (zS_istore_n d114_136 rfl)
theorem v114_137 (L : Nat) (xs : Nat → Int32) : zVal L xs 114 137 (.inl (i_go 95)) := zS_goto d114_137 (by decide)
theorem v114_140 (L : Nat) (xs : Nat → Int32) : zVal L xs 114 140 (.inl (i_k [false, true, true, true] (i_al 0 141))) := zS_k (zS_aload_n d114_140 rfl)
theorem v114_141 (L : Nat) (xs : Nat → Int32) : zVal L xs 114 141 (.inl (i_dup 142)) := zS_dup d114_141
theorem v114_142 (L : Nat) (xs : Nat → Int32) : zVal L xs 114 142 (.inl (i_gf 10 13 145)) := zS_getf d114_142 (zcl10) (by decide) zi10 w791
theorem v114_145 (L : Nat) (xs : Nat → Int32) : zVal L xs 114 145 (.inl (i_c (.int 1) 146)) := zS_iconst d114_145 (by decide)
theorem v114_146 (L : Nat) (xs : Nat → Int32) : zVal L xs 114 146 (.inl (i_bi (fun x y => x + y) 147)) := zS_iadd d114_146
theorem v114_147 (L : Nat) (xs : Nat → Int32) : zVal L xs 114 147 (.inl (i_pf 10 13 okI 150)) := zS_putf (ty := .int) d114_147 (zcl10) (by decide) zi10 w791 zy10 zn10 (by decide +kernel) (by decide +kernel) okI_ok
theorem v114_150 (L : Nat) (xs : Nat → Int32) : zVal L xs 114 150 (.inr (.inr 0)) := zr_0 d114_150 rfl
theorem vt114 (L : Nat) (xs : Nat → Int32) : zAll (fun x => zVal L xs 114 x.1 x.2) (tb114) := ⟨v114_0 L xs, v114_1 L xs, v114_4 L xs, v114_6 L xs, v114_9 L xs, v114_10 L xs, v114_13 L xs, v114_14 L xs, v114_17 L xs, v114_18 L xs, v114_21 L xs, v114_22 L xs, v114_23 L xs, v114_26 L xs, v114_27 L xs, v114_28 L xs, v114_29 L xs, v114_32 L xs, v114_33 L xs, v114_34 L xs, v114_37 L xs, v114_38 L xs, v114_40 L xs, v114_42 L xs, v114_45 L xs, v114_46 L xs, v114_47 L xs, v114_50 L xs, v114_51 L xs, v114_52 L xs, v114_54 L xs, v114_55 L xs, v114_56 L xs, v114_57 L xs, v114_60 L xs, v114_61 L xs, v114_62 L xs, v114_63 L xs, v114_64 L xs, v114_67 L xs, v114_68 L xs, v114_69 L xs, v114_70 L xs, v114_71 L xs, v114_74 L xs, v114_75 L xs, v114_76 L xs, v114_77 L xs, v114_78 L xs, v114_81 L xs, v114_84 L xs, v114_85 L xs, v114_87 L xs, v114_88 L xs, v114_89 L xs, v114_90 L xs, v114_93 L xs, v114_94 L xs, v114_95 L xs, v114_96 L xs, v114_99 L xs, v114_102 L xs, v114_103 L xs, v114_106 L xs, v114_107 L xs, v114_108 L xs, v114_111 L xs, v114_112 L xs, v114_115 L xs, v114_116 L xs, v114_119 L xs, v114_122 L xs, v114_123 L xs, v114_126 L xs, v114_128 L xs, v114_131 L xs, v114_132 L xs, v114_135 L xs, v114_136 L xs, v114_137 L xs, v114_140 L xs, v114_141 L xs, v114_142 L xs, v114_145 L xs, v114_146 L xs, v114_147 L xs, v114_150 L xs, trivial⟩
theorem d115_0 : decode (mB 115) 0 = .ok (.iconst 0, 1) := by decide +kernel
theorem d115_1 : decode (mB 115) 1 = .ok (.istore_n 1, 1) := by decide +kernel
theorem d115_2 : decode (mB 115) 2 = .ok (.iload_n 1, 1) := by decide +kernel
theorem d115_3 : decode (mB 115) 3 = .ok (.sipush 192, 3) := by decide +kernel
theorem d115_6 : decode (mB 115) 6 = .ok (.if_icmp .ge 16, 3) := by decide +kernel
theorem d115_9 : decode (mB 115) 9 = .ok (.aload_n 0, 1) := by decide +kernel
theorem d115_10 : decode (mB 115) 10 = .ok (.getfield 99, 3) := by decide +kernel
theorem d115_13 : decode (mB 115) 13 = .ok (.iload_n 1, 1) := by decide +kernel
theorem d115_14 : decode (mB 115) 14 = .ok (.iconst 0, 1) := by decide +kernel
theorem d115_15 : decode (mB 115) 15 = .ok (.iastore, 1) := by decide +kernel
theorem d115_16 : decode (mB 115) 16 = .ok (.iinc 1 1, 3) := by decide +kernel
theorem d115_19 : decode (mB 115) 19 = .ok (.goto (-17), 3) := by decide +kernel
theorem d115_22 : decode (mB 115) 22 = .ok (.iconst 0, 1) := by decide +kernel
theorem d115_23 : decode (mB 115) 23 = .ok (.istore_n 1, 1) := by decide +kernel
theorem d115_24 : decode (mB 115) 24 = .ok (.iload_n 1, 1) := by decide +kernel
theorem d115_25 : decode (mB 115) 25 = .ok (.bipush 8, 2) := by decide +kernel
theorem d115_27 : decode (mB 115) 27 = .ok (.if_icmp .ge 16, 3) := by decide +kernel
theorem d115_30 : decode (mB 115) 30 = .ok (.aload_n 0, 1) := by decide +kernel
theorem d115_31 : decode (mB 115) 31 = .ok (.getfield 93, 3) := by decide +kernel
theorem d115_34 : decode (mB 115) 34 = .ok (.iload_n 1, 1) := by decide +kernel
theorem d115_35 : decode (mB 115) 35 = .ok (.iconst 0, 1) := by decide +kernel
theorem d115_36 : decode (mB 115) 36 = .ok (.bastore, 1) := by decide +kernel
theorem d115_37 : decode (mB 115) 37 = .ok (.iinc 1 1, 3) := by decide +kernel
theorem d115_40 : decode (mB 115) 40 = .ok (.goto (-16), 3) := by decide +kernel
theorem d115_43 : decode (mB 115) 43 = .ok (.return_, 1) := by decide +kernel
theorem v115_0 (L : Nat) (xs : Nat → Int32) : zVal L xs 115 0 (.inl (i_c (.int 0) 1)) := zS_iconst d115_0 (by decide)
theorem v115_1 (L : Nat) (xs : Nat → Int32) : zVal L xs 115 1 (.inl (i_is 1 2)) := zS_istore_n d115_1 rfl
theorem v115_2 (L : Nat) (xs : Nat → Int32) : zVal L xs 115 2 (.inl (i_k [false, false] (i_il 1 3))) := zS_k (zS_iload_n d115_2 rfl)
theorem v115_3 (L : Nat) (xs : Nat → Int32) : zVal L xs 115 3 (.inl (i_c (.int 192) 6)) := zS_sipush d115_3 (by decide)
theorem v115_6 (L : Nat) (xs : Nat → Int32) : zVal L xs 115 6 (.inl (i_f2 (fun x y => decide (y ≤ x)) 22 9)) := zS_icmp_ge d115_6 (by decide)
theorem v115_9 (L : Nat) (xs : Nat → Int32) : zVal L xs 115 9 (.inl (i_al 0 10)) := zS_aload_n d115_9 rfl
theorem v115_10 (L : Nat) (xs : Nat → Int32) : zVal L xs 115 10 (.inl (i_gf 10 37 13)) := zS_getf d115_10 (zcl10) (by decide) zi10 w815
theorem v115_13 (L : Nat) (xs : Nat → Int32) : zVal L xs 115 13 (.inl (i_il 1 14)) := zS_iload_n d115_13 rfl
theorem v115_14 (L : Nat) (xs : Nat → Int32) : zVal L xs 115 14 (.inl (i_c (.int 0) 15)) := zS_iconst d115_14 (by decide)
theorem v115_15 (L : Nat) (xs : Nat → Int32) : zVal L xs 115 15 (.inl (i_pa 0 (fun x => x) 16)) := zS_iast d115_15
theorem v115_16 (L : Nat) (xs : Nat → Int32) : zVal L xs 115 16 (.inl (i_in 1 1 19)) := zS_iinc d115_16 (by decide)
theorem v115_19 (L : Nat) (xs : Nat → Int32) : zVal L xs 115 19 (.inl (i_go 2)) := zS_goto d115_19 (by decide)
theorem v115_22 (L : Nat) (xs : Nat → Int32) : zVal L xs 115 22 (.inl (i_c (.int 0) 23)) := zS_iconst d115_22 (by decide)
theorem v115_23 (L : Nat) (xs : Nat → Int32) : zVal L xs 115 23 (.inl (i_is 1 24)) := zS_istore_n d115_23 rfl
theorem v115_24 (L : Nat) (xs : Nat → Int32) : zVal L xs 115 24 (.inl (i_k [false, false] (i_il 1 25))) := zS_k (zS_iload_n d115_24 rfl)
theorem v115_25 (L : Nat) (xs : Nat → Int32) : zVal L xs 115 25 (.inl (i_c (.int 8) 27)) := zS_bipush d115_25 (by decide)
theorem v115_27 (L : Nat) (xs : Nat → Int32) : zVal L xs 115 27 (.inl (i_f2 (fun x y => decide (y ≤ x)) 43 30)) := zS_icmp_ge d115_27 (by decide)
theorem v115_30 (L : Nat) (xs : Nat → Int32) : zVal L xs 115 30 (.inl (i_al 0 31)) := zS_aload_n d115_30 rfl
theorem v115_31 (L : Nat) (xs : Nat → Int32) : zVal L xs 115 31 (.inl (i_gf 10 35 34)) := zS_getf d115_31 (zcl10) (by decide) zi10 w813
theorem v115_34 (L : Nat) (xs : Nat → Int32) : zVal L xs 115 34 (.inl (i_il 1 35)) := zS_iload_n d115_34 rfl
theorem v115_35 (L : Nat) (xs : Nat → Int32) : zVal L xs 115 35 (.inl (i_c (.int 0) 36)) := zS_iconst d115_35 (by decide)
theorem v115_36 (L : Nat) (xs : Nat → Int32) : zVal L xs 115 36 (.inl (i_pa 3 (vp_nar .boolean) 37)) := zS_zast d115_36
theorem v115_37 (L : Nat) (xs : Nat → Int32) : zVal L xs 115 37 (.inl (i_in 1 1 40)) := zS_iinc d115_37 (by decide)
theorem v115_40 (L : Nat) (xs : Nat → Int32) : zVal L xs 115 40 (.inl (i_go 24)) := zS_goto d115_40 (by decide)
theorem v115_43 (L : Nat) (xs : Nat → Int32) : zVal L xs 115 43 (.inr (.inr 0)) := zr_0 d115_43 rfl
theorem vt115 (L : Nat) (xs : Nat → Int32) : zAll (fun x => zVal L xs 115 x.1 x.2) (tb115) := ⟨v115_0 L xs, v115_1 L xs, v115_2 L xs, v115_3 L xs, v115_6 L xs, v115_9 L xs, v115_10 L xs, v115_13 L xs, v115_14 L xs, v115_15 L xs, v115_16 L xs, v115_19 L xs, v115_22 L xs, v115_23 L xs, v115_24 L xs, v115_25 L xs, v115_27 L xs, v115_30 L xs, v115_31 L xs, v115_34 L xs, v115_35 L xs, v115_36 L xs, v115_37 L xs, v115_40 L xs, v115_43 L xs, trivial⟩
theorem d116_0 : decode (mB 116) 0 = .ok (.aload_n 0, 1) := by decide +kernel
theorem d116_1 : decode (mB 116) 1 = .ok (.iconst 0, 1) := by decide +kernel
theorem d116_2 : decode (mB 116) 2 = .ok (.putfield 183, 3) := by decide +kernel
theorem d116_5 : decode (mB 116) 5 = .ok (.aload_n 0, 1) := by decide +kernel
theorem d116_6 : decode (mB 116) 6 = .ok (.iconst 0, 1) := by decide +kernel
theorem d116_7 : decode (mB 116) 7 = .ok (.putfield 189, 3) := by decide +kernel
theorem d116_10 : decode (mB 116) 10 = .ok (.aload_n 0, 1) := by decide +kernel
theorem d116_11 : decode (mB 116) 11 = .ok (.iconst 0, 1) := by decide +kernel
theorem d116_12 : decode (mB 116) 12 = .ok (.putfield 159, 3) := by decide +kernel
theorem d116_15 : decode (mB 116) 15 = .ok (.aload_n 0, 1) := by decide +kernel
theorem d116_16 : decode (mB 116) 16 = .ok (.iconst (-1), 1) := by decide +kernel
theorem d116_17 : decode (mB 116) 17 = .ok (.putfield 58, 3) := by decide +kernel
theorem d116_20 : decode (mB 116) 20 = .ok (.aload_n 0, 1) := by decide +kernel
theorem d116_21 : decode (mB 116) 21 = .ok (.invokevirtual 193, 3) := by decide +kernel
theorem d116_24 : decode (mB 116) 24 = .ok (.iconst 1, 1) := by decide +kernel
theorem d116_25 : decode (mB 116) 25 = .ok (.istore_n 1, 1) := by decide +kernel
theorem d116_26 : decode (mB 116) 26 = .ok (.aload_n 0, 1) := by decide +kernel
theorem d116_27 : decode (mB 116) 27 = .ok (.getfield 58, 3) := by decide +kernel
theorem d116_30 : decode (mB 116) 30 = .ok (.ifCond .ge 31, 3) := by decide +kernel
theorem d116_33 : decode (mB 116) 33 = .ok (.iload_n 1, 1) := by decide +kernel
theorem d116_34 : decode (mB 116) 34 = .ok (.ifCond .eq 27, 3) := by decide +kernel
theorem d116_37 : decode (mB 116) 37 = .ok (.aload_n 0, 1) := by decide +kernel
theorem d116_38 : decode (mB 116) 38 = .ok (.invokevirtual 196, 3) := by decide +kernel
theorem d116_41 : decode (mB 116) 41 = .ok (.aload_n 0, 1) := by decide +kernel
theorem d116_42 : decode (mB 116) 42 = .ok (.getfield 159, 3) := by decide +kernel
theorem d116_45 : decode (mB 116) 45 = .ok (.aload_n 0, 1) := by decide +kernel
theorem d116_46 : decode (mB 116) 46 = .ok (.getfield 156, 3) := by decide +kernel
theorem d116_49 : decode (mB 116) 49 = .ok (.if_icmp .ge 7, 3) := by decide +kernel
theorem d116_52 : decode (mB 116) 52 = .ok (.iconst 1, 1) := by decide +kernel
theorem d116_53 : decode (mB 116) 53 = .ok (.goto 4, 3) := by decide +kernel
theorem d116_56 : decode (mB 116) 56 = .ok (.iconst 0, 1) := by decide +kernel
theorem d116_57 : decode (mB 116) 57 = .ok (.istore_n 1, 1) := by decide +kernel
theorem d116_58 : decode (mB 116) 58 = .ok (.goto (-32), 3) := by decide +kernel
theorem d116_61 : decode (mB 116) 61 = .ok (.aload_n 0, 1) := by decide +kernel
theorem d116_62 : decode (mB 116) 62 = .ok (.aload_n 0, 1) := by decide +kernel
theorem d116_63 : decode (mB 116) 63 = .ok (.getfield 58, 3) := by decide +kernel
theorem d116_66 : decode (mB 116) 66 = .ok (.ifCond .ge 10, 3) := by decide +kernel
theorem d116_69 : decode (mB 116) 69 = .ok (.aload_n 0, 1) := by decide +kernel
theorem d116_70 : decode (mB 116) 70 = .ok (.getfield 183, 3) := by decide +kernel
theorem d116_73 : decode (mB 116) 73 = .ok (.goto 4, 3) := by decide +kernel
theorem d116_76 : decode (mB 116) 76 = .ok (.iconst 0, 1) := by decide +kernel
theorem d116_77 : decode (mB 116) 77 = .ok (.putfield 183, 3) := by decide +kernel
theorem d116_80 : decode (mB 116) 80 = .ok (.aload_n 0, 1) := by decide +kernel
theorem d116_81 : decode (mB 116) 81 = .ok (.getfield 58, 3) := by decide +kernel
theorem d116_84 : decode (mB 116) 84 = .ok (.ifCond .ge 10, 3) := by decide +kernel
theorem d116_87 : decode (mB 116) 87 = .ok (.aload_n 0, 1) := by decide +kernel
theorem d116_88 : decode (mB 116) 88 = .ok (.getfield 183, 3) := by decide +kernel
theorem d116_91 : decode (mB 116) 91 = .ok (.goto 4, 3) := by decide +kernel
theorem d116_94 : decode (mB 116) 94 = .ok (.iconst (-1), 1) := by decide +kernel
theorem d116_95 : decode (mB 116) 95 = .ok (.ireturn, 1) := by decide +kernel
theorem v116_0 (L : Nat) (xs : Nat → Int32) : zVal L xs 116 0 (.inl (i_al 0 1)) := zS_aload_n d116_0 rfl
theorem v116_1 (L : Nat) (xs : Nat → Int32) : zVal L xs 116 1 (.inl (i_c (.int 0) 2)) := zS_iconst d116_1 (by decide)
theorem v116_2 (L : Nat) (xs : Nat → Int32) : zVal L xs 116 2 (.inl (i_pf 10 13 okI 5)) := zS_putf (ty := .int) d116_2 (zcl10) (by decide) zi10 w791 zy10 zn10 (by decide +kernel) (by decide +kernel) okI_ok
theorem v116_5 (L : Nat) (xs : Nat → Int32) : zVal L xs 116 5 (.inl (i_al 0 6)) := zS_aload_n d116_5 rfl
theorem v116_6 (L : Nat) (xs : Nat → Int32) : zVal L xs 116 6 (.inl (i_c (.int 0) 7)) := zS_iconst d116_6 (by decide)
theorem v116_7 (L : Nat) (xs : Nat → Int32) : zVal L xs 116 7 (.inl (i_pf 10 24 okZ 10)) := zS_putf (ty := .boolean) d116_7 (zcl10) (by decide) zi10 w802 zy10 zn10 (by decide +kernel) (by decide +kernel) okZ_ok
theorem v116_10 (L : Nat) (xs : Nat → Int32) : zVal L xs 116 10 (.inl (i_al 0 11)) := zS_aload_n d116_10 rfl
theorem v116_11 (L : Nat) (xs : Nat → Int32) : zVal L xs 116 11 (.inl (i_c (.int 0) 12)) := zS_iconst d116_11 (by decide)
theorem v116_12 (L : Nat) (xs : Nat → Int32) : zVal L xs 116 12 (.inl (i_pf 10 22 okI 15)) := zS_putf (ty := .int) d116_12 (zcl10) (by decide) zi10 w800 zy10 zn10 (by decide +kernel) (by decide +kernel) okI_ok
theorem v116_15 (L : Nat) (xs : Nat → Int32) : zVal L xs 116 15 (.inl (i_al 0 16)) := zS_aload_n d116_15 rfl
theorem v116_16 (L : Nat) (xs : Nat → Int32) : zVal L xs 116 16 (.inl (i_c (.int (-1)) 17)) := zS_iconst d116_16 (by decide)
theorem v116_17 (L : Nat) (xs : Nat → Int32) : zVal L xs 116 17 (.inl (i_pf 10 23 okI 20)) := zS_putf (ty := .int) d116_17 (zcl10) (by decide) zi10 w801 zy10 zn10 (by decide +kernel) (by decide +kernel) okI_ok
theorem v116_20 (L : Nat) (xs : Nat → Int32) : zVal L xs 116 20 (.inl (i_al 0 21)) := zS_aload_n d116_20 rfl
theorem v116_21 (L : Nat) (xs : Nat → Int32) : zVal L xs 116 21 (.inr (.inl (115, 1, 11))) := ⟨by decide +kernel, by decide +kernel, zc_virt d116_21 zcl10 w971 w968 w970 w39 w85 ⟨by decide +kernel, by decide +kernel, by decide +kernel⟩ (by decide) (by decide)⟩
theorem v116_24 (L : Nat) (xs : Nat → Int32) : zVal L xs 116 24 (.inl (i_c (.int 1) 25)) := zS_iconst d116_24 (by decide)
theorem v116_25 (L : Nat) (xs : Nat → Int32) : zVal L xs 116 25 (.inl (i_is 1 26)) := zS_istore_n d116_25 rfl
theorem v116_26 (L : Nat) (xs : Nat → Int32) : zVal L xs 116 26 (.inl (i_k [false, false] (i_al 0 27))) := zS_k (zS_aload_n d116_26 rfl)
theorem v116_27 (L : Nat) (xs : Nat → Int32) : zVal L xs 116 27 (.inl (i_gf 10 23 30)) := zS_getf d116_27 (zcl10) (by decide) zi10 w801
theorem v116_30 (L : Nat) (xs : Nat → Int32) : zVal L xs 116 30 (.inl (i_f1 (fun x => decide (0 ≤ x)) 61 33)) := zS_if_ge d116_30 (by decide)
theorem v116_33 (L : Nat) (xs : Nat → Int32) : zVal L xs 116 33 (.inl (i_il 1 34)) := zS_iload_n d116_33 rfl
theorem v116_34 (L : Nat) (xs : Nat → Int32) : zVal L xs 116 34 (.inl (i_f1 (fun x => decide (x = 0)) 61 37)) := zS_if_eq d116_34 (by decide)
theorem v116_37 (L : Nat) (xs : Nat → Int32) : zVal L xs 116 37 (.inl (i_al 0 38)) := zS_aload_n d116_37 rfl
theorem v116_38 (L : Nat) (xs : Nat → Int32) : zVal L xs 116 38 (.inr (.inl (114, 1, 11))) := ⟨by decide +kernel, by decide +kernel, zc_virt d116_38 zcl10 w975 w972 w974 w40 w85 ⟨by decide +kernel, by decide +kernel, by decide +kernel⟩ (by decide) (by decide)⟩
theorem v116_41 (L : Nat) (xs : Nat → Int32) : zVal L xs 116 41 (.inl (i_al 0 42)) := zS_aload_n d116_41 rfl
theorem v116_42 (L : Nat) (xs : Nat → Int32) : zVal L xs 116 42 (.inl (i_gf 10 22 45)) := zS_getf d116_42 (zcl10) (by decide) zi10 w800
theorem v116_45 (L : Nat) (xs : Nat → Int32) : zVal L xs 116 45 (.inl (i_al 0 46)) := zS_aload_n d116_45 rfl
theorem v116_46 (L : Nat) (xs : Nat → Int32) : zVal L xs 116 46 (.inl (i_gf 10 12 49)) := zS_getf d116_46 (zcl10) (by decide) zi10 w790
theorem v116_49 (L : Nat) (xs : Nat → Int32) : zVal L xs 116 49 (.inl (i_f2 (fun x y => decide (y ≤ x)) 56 52)) := zS_icmp_ge d116_49 (by decide)
theorem v116_52 (L : Nat) (xs : Nat → Int32) : zVal L xs 116 52 (.inl (i_c (.int 1) 53)) := zS_iconst d116_52 (by decide)
theorem v116_53 (L : Nat) (xs : Nat → Int32) : zVal L xs 116 53 (.inl (i_go 57)) := zS_goto d116_53 (by decide)
theorem v116_56 (L : Nat) (xs : Nat → Int32) : zVal L xs 116 56 (.inl (i_c (.int 0) 57)) := zS_iconst d116_56 (by decide)
theorem v116_57 (L : Nat) (xs : Nat → Int32) : zVal L xs 116 57 (.inl (i_k [false, true] (i_is 1 58))) := zS_k (zS_istore_n d116_57 rfl)
theorem v116_58 (L : Nat) (xs : Nat → Int32) : zVal L xs 116 58 (.inl (i_go 26)) := zS_goto d116_58 (by decide)
theorem v116_61 (L : Nat) (xs : Nat → Int32) : zVal L xs 116 61 (.inl (i_k [false, true] (i_al 0 62))) := zS_k (zS_aload_n d116_61 rfl)
theorem v116_62 (L : Nat) (xs : Nat → Int32) : zVal L xs 116 62 (.inl (i_al 0 63)) := zS_aload_n d116_62 rfl
theorem v116_63 (L : Nat) (xs : Nat → Int32) : zVal L xs 116 63 (.inl (i_gf 10 23 66)) := zS_getf d116_63 (zcl10) (by decide) zi10 w801
theorem v116_66 (L : Nat) (xs : Nat → Int32) : zVal L xs 116 66 (.inl (i_f1 (fun x => decide (0 ≤ x)) 76 69)) := zS_if_ge d116_66 (by decide)
theorem v116_69 (L : Nat) (xs : Nat → Int32) : zVal L xs 116 69 (.inl (i_al 0 70)) := zS_aload_n d116_69 rfl
theorem v116_70 (L : Nat) (xs : Nat → Int32) : zVal L xs 116 70 (.inl (i_gf 10 13 73)) := zS_getf d116_70 (zcl10) (by decide) zi10 w791
theorem v116_73 (L : Nat) (xs : Nat → Int32) : zVal L xs 116 73 (.inl (i_go 77)) := zS_goto d116_73 (by decide)
theorem v116_76 (L : Nat) (xs : Nat → Int32) : zVal L xs 116 76 (.inl (i_c (.int 0) 77)) := zS_iconst d116_76 (by decide)
theorem v116_77 (L : Nat) (xs : Nat → Int32) : zVal L xs 116 77 (.inl (i_k [false, true] (i_pf 10 13 okI 80))) := zS_k (zS_putf (ty := .int) d116_77 (zcl10) (by decide) zi10 w791 zy10 zn10 (by decide +kernel) (by decide +kernel) okI_ok)
theorem v116_80 (L : Nat) (xs : Nat → Int32) : zVal L xs 116 80 (.inl (i_al 0 81)) := zS_aload_n d116_80 rfl
theorem v116_81 (L : Nat) (xs : Nat → Int32) : zVal L xs 116 81 (.inl (i_gf 10 23 84)) := zS_getf d116_81 (zcl10) (by decide) zi10 w801
theorem v116_84 (L : Nat) (xs : Nat → Int32) : zVal L xs 116 84 (.inl (i_f1 (fun x => decide (0 ≤ x)) 94 87)) := zS_if_ge d116_84 (by decide)
theorem v116_87 (L : Nat) (xs : Nat → Int32) : zVal L xs 116 87 (.inl (i_al 0 88)) := zS_aload_n d116_87 rfl
theorem v116_88 (L : Nat) (xs : Nat → Int32) : zVal L xs 116 88 (.inl (i_gf 10 13 91)) := zS_getf d116_88 (zcl10) (by decide) zi10 w791
theorem v116_91 (L : Nat) (xs : Nat → Int32) : zVal L xs 116 91 (.inl (i_go 95)) := zS_goto d116_91 (by decide)
theorem v116_94 (L : Nat) (xs : Nat → Int32) : zVal L xs 116 94 (.inl (i_c (.int (-1)) 95)) := zS_iconst d116_94 (by decide)
theorem v116_95 (L : Nat) (xs : Nat → Int32) : zVal L xs 116 95 (.inr (.inr 1)) := zr_1 d116_95 rfl
theorem vt116 (L : Nat) (xs : Nat → Int32) : zAll (fun x => zVal L xs 116 x.1 x.2) (tb116) := ⟨v116_0 L xs, v116_1 L xs, v116_2 L xs, v116_5 L xs, v116_6 L xs, v116_7 L xs, v116_10 L xs, v116_11 L xs, v116_12 L xs, v116_15 L xs, v116_16 L xs, v116_17 L xs, v116_20 L xs, v116_21 L xs, v116_24 L xs, v116_25 L xs, v116_26 L xs, v116_27 L xs, v116_30 L xs, v116_33 L xs, v116_34 L xs, v116_37 L xs, v116_38 L xs, v116_41 L xs, v116_42 L xs, v116_45 L xs, v116_46 L xs, v116_49 L xs, v116_52 L xs, v116_53 L xs, v116_56 L xs, v116_57 L xs, v116_58 L xs, v116_61 L xs, v116_62 L xs, v116_63 L xs, v116_66 L xs, v116_69 L xs, v116_70 L xs, v116_73 L xs, v116_76 L xs, v116_77 L xs, v116_80 L xs, v116_81 L xs, v116_84 L xs, v116_87 L xs, v116_88 L xs, v116_91 L xs, v116_94 L xs, v116_95 L xs, trivial⟩
theorem d117_0 : decode (mB 117) 0 = .ok (.aload_n 0, 1) := by decide +kernel
theorem d117_1 : decode (mB 117) 1 = .ok (.getfield 58, 3) := by decide +kernel
theorem d117_4 : decode (mB 117) 4 = .ok (.ireturn, 1) := by decide +kernel
theorem v117_0 (L : Nat) (xs : Nat → Int32) : zVal L xs 117 0 (.inl (i_al 0 1)) := zS_aload_n d117_0 rfl
theorem v117_1 (L : Nat) (xs : Nat → Int32) : zVal L xs 117 1 (.inl (i_gf 10 23 4)) := zS_getf d117_1 (zcl10) (by decide) zi10 w801
theorem v117_4 (L : Nat) (xs : Nat → Int32) : zVal L xs 117 4 (.inr (.inr 1)) := zr_1 d117_4 rfl
theorem vt117 (L : Nat) (xs : Nat → Int32) : zAll (fun x => zVal L xs 117 x.1 x.2) (tb117) := ⟨v117_0 L xs, v117_1 L xs, v117_4 L xs, trivial⟩
theorem d118_0 : decode (mB 118) 0 = .ok (.iconst 0, 1) := by decide +kernel
theorem d118_1 : decode (mB 118) 1 = .ok (.istore_n 2, 1) := by decide +kernel
theorem d118_2 : decode (mB 118) 2 = .ok (.iload_n 2, 1) := by decide +kernel
theorem d118_3 : decode (mB 118) 3 = .ok (.sipush 192, 3) := by decide +kernel
theorem d118_6 : decode (mB 118) 6 = .ok (.if_icmp .gt 23, 3) := by decide +kernel
theorem d118_9 : decode (mB 118) 9 = .ok (.aload_n 0, 1) := by decide +kernel
theorem d118_10 : decode (mB 118) 10 = .ok (.getfield 80, 3) := by decide +kernel
theorem d118_13 : decode (mB 118) 13 = .ok (.iload_n 2, 1) := by decide +kernel
theorem d118_14 : decode (mB 118) 14 = .ok (.iconst 0, 1) := by decide +kernel
theorem d118_15 : decode (mB 118) 15 = .ok (.bastore, 1) := by decide +kernel
theorem d118_16 : decode (mB 118) 16 = .ok (.aload_n 0, 1) := by decide +kernel
theorem d118_17 : decode (mB 118) 17 = .ok (.getfield 84, 3) := by decide +kernel
theorem d118_20 : decode (mB 118) 20 = .ok (.iload_n 2, 1) := by decide +kernel
theorem d118_21 : decode (mB 118) 21 = .ok (.iconst 0, 1) := by decide +kernel
theorem d118_22 : decode (mB 118) 22 = .ok (.bastore, 1) := by decide +kernel
theorem d118_23 : decode (mB 118) 23 = .ok (.iinc 2 1, 3) := by decide +kernel
theorem d118_26 : decode (mB 118) 26 = .ok (.goto (-24), 3) := by decide +kernel
theorem d118_29 : decode (mB 118) 29 = .ok (.iconst 0, 1) := by decide +kernel
theorem d118_30 : decode (mB 118) 30 = .ok (.istore_n 2, 1) := by decide +kernel
theorem d118_31 : decode (mB 118) 31 = .ok (.iconst 0, 1) := by decide +kernel
theorem d118_32 : decode (mB 118) 32 = .ok (.istore_n 3, 1) := by decide +kernel
theorem d118_33 : decode (mB 118) 33 = .ok (.iload_n 3, 1) := by decide +kernel
theorem d118_34 : decode (mB 118) 34 = .ok (.aload_n 0, 1) := by decide +kernel
theorem d118_35 : decode (mB 118) 35 = .ok (.getfield 52, 3) := by decide +kernel
theorem d118_38 : decode (mB 118) 38 = .ok (.iload_n 1, 1) := by decide +kernel
theorem d118_39 : decode (mB 118) 39 = .ok (.iaload, 1) := by decide +kernel
theorem d118_40 : decode (mB 118) 40 = .ok (.if_icmp .ge 122, 3) := by decide +kernel
theorem d118_43 : decode (mB 118) 43 = .ok (.aload_n 0, 1) := by decide +kernel
theorem d118_44 : decode (mB 118) 44 = .ok (.getfield 49, 3) := by decide +kernel
theorem d118_47 : decode (mB 118) 47 = .ok (.bipush 16, 2) := by decide +kernel
theorem d118_49 : decode (mB 118) 49 = .ok (.iload_n 1, 1) := by decide +kernel
theorem d118_50 : decode (mB 118) 50 = .ok (.imul, 1) := by decide +kernel
theorem d118_51 : decode (mB 118) 51 = .ok (.iload_n 3, 1) := by decide +kernel
theorem d118_52 : decode (mB 118) 52 = .ok (.iadd, 1) := by decide +kernel
theorem d118_53 : decode (mB 118) 53 = .ok (.iaload, 1) := by decide +kernel
theorem d118_54 : decode (mB 118) 54 = .ok (.iload_n 2, 1) := by decide +kernel
theorem d118_55 : decode (mB 118) 55 = .ok (.isub, 1) := by decide +kernel
theorem d118_56 : decode (mB 118) 56 = .ok (.istore 4, 2) := by decide +kernel
theorem d118_58 : decode (mB 118) 58 = .ok (.iconst 0, 1) := by decide +kernel
theorem d118_59 : decode (mB 118) 59 = .ok (.istore 5, 2) := by decide +kernel
theorem d118_61 : decode (mB 118) 61 = .ok (.iload 5, 2) := by decide +kernel
theorem d118_63 : decode (mB 118) 63 = .ok (.iload 4, 2) := by decide +kernel
theorem d118_65 : decode (mB 118) 65 = .ok (.if_icmp .ge 33, 3) := by decide +kernel
theorem d118_68 : decode (mB 118) 68 = .ok (.aload_n 0, 1) := by decide +kernel
theorem d118_69 : decode (mB 118) 69 = .ok (.getfield 25, 3) := by decide +kernel
theorem d118_72 : decode (mB 118) 72 = .ok (.iconst 1, 1) := by decide +kernel
theorem d118_73 : decode (mB 118) 73 = .ok (.iload 5, 2) := by decide +kernel
theorem d118_75 : decode (mB 118) 75 = .ok (.iadd, 1) := by decide +kernel
theorem d118_76 : decode (mB 118) 76 = .ok (.aload_n 0, 1) := by decide +kernel
theorem d118_77 : decode (mB 118) 77 = .ok (.getfield 46, 3) := by decide +kernel
theorem d118_80 : decode (mB 118) 80 = .ok (.sipush 192, 3) := by decide +kernel
theorem d118_83 : decode (mB 118) 83 = .ok (.iload_n 1, 1) := by decide +kernel
theorem d118_84 : decode (mB 118) 84 = .ok (.imul, 1) := by decide +kernel
theorem d118_85 : decode (mB 118) 85 = .ok (.iload_n 2, 1) := by decide +kernel
theorem d118_86 : decode (mB 118) 86 = .ok (.iadd, 1) := by decide +kernel
theorem d118_87 : decode (mB 118) 87 = .ok (.iload 5, 2) := by decide +kernel
theorem d118_89 : decode (mB 118) 89 = .ok (.iadd, 1) := by decide +kernel
theorem d118_90 : decode (mB 118) 90 = .ok (.iaload, 1) := by decide +kernel
theorem d118_91 : decode (mB 118) 91 = .ok (.iastore, 1) := by decide +kernel
theorem d118_92 : decode (mB 118) 92 = .ok (.iinc 5 1, 3) := by decide +kernel
theorem d118_95 : decode (mB 118) 95 = .ok (.goto (-34), 3) := by decide +kernel
theorem d118_98 : decode (mB 118) 98 = .ok (.aload_n 0, 1) := by decide +kernel
theorem d118_99 : decode (mB 118) 99 = .ok (.iload 4, 2) := by decide +kernel
theorem d118_101 : decode (mB 118) 101 = .ok (.invokevirtual 148, 3) := by decide +kernel
theorem d118_104 : decode (mB 118) 104 = .ok (.iconst 1, 1) := by decide +kernel
theorem d118_105 : decode (mB 118) 105 = .ok (.istore 5, 2) := by decide +kernel
theorem d118_107 : decode (mB 118) 107 = .ok (.iload 5, 2) := by decide +kernel
theorem d118_109 : decode (mB 118) 109 = .ok (.iload 4, 2) := by decide +kernel
theorem d118_111 : decode (mB 118) 111 = .ok (.if_icmp .ge 26, 3) := by decide +kernel
theorem d118_114 : decode (mB 118) 114 = .ok (.aload_n 0, 1) := by decide +kernel
theorem d118_115 : decode (mB 118) 115 = .ok (.getfield 80, 3) := by decide +kernel
theorem d118_118 : decode (mB 118) 118 = .ok (.iload_n 2, 1) := by decide +kernel
theorem d118_119 : decode (mB 118) 119 = .ok (.iload 5, 2) := by decide +kernel
theorem d118_121 : decode (mB 118) 121 = .ok (.iadd, 1) := by decide +kernel
theorem d118_122 : decode (mB 118) 122 = .ok (.aload_n 0, 1) := by decide +kernel
theorem d118_123 : decode (mB 118) 123 = .ok (.iload 5, 2) := by decide +kernel
theorem d118_125 : decode (mB 118) 125 = .ok (.iload 4, 2) := by decide +kernel
theorem d118_127 : decode (mB 118) 127 = .ok (.invokevirtual 152, 3) := by decide +kernel
theorem d118_130 : decode (mB 118) 130 = .ok (.bastore, 1) := by decide +kernel
theorem d118_131 : decode (mB 118) 131 = .ok (.iinc 5 1, 3) := by decide +kernel
theorem d118_134 : decode (mB 118) 134 = .ok (.goto (-27), 3) := by decide +kernel
theorem d118_137 : decode (mB 118) 137 = .ok (.iload_n 2, 1) := by decide +kernel
theorem d118_138 : decode (mB 118) 138 = .ok (.iload 4, 2) := by decide +kernel
theorem d118_140 : decode (mB 118) 140 = .ok (.iadd, 1) := by decide +kernel
theorem d118_141 : decode (mB 118) 141 = .ok (.istore_n 2, 1) := by decide +kernel
theorem d118_142 : decode (mB 118) 142 = .ok (.aload_n 0, 1) := by decide +kernel
theorem d118_143 : decode (mB 118) 143 = .ok (.getfield 80, 3) := by decide +kernel
theorem d118_146 : decode (mB 118) 146 = .ok (.iload_n 2, 1) := by decide +kernel
theorem d118_147 : decode (mB 118) 147 = .ok (.iconst 1, 1) := by decide +kernel
theorem d118_148 : decode (mB 118) 148 = .ok (.bastore, 1) := by decide +kernel
theorem d118_149 : decode (mB 118) 149 = .ok (.aload_n 0, 1) := by decide +kernel
theorem d118_150 : decode (mB 118) 150 = .ok (.getfield 84, 3) := by decide +kernel
theorem d118_153 : decode (mB 118) 153 = .ok (.iload_n 2, 1) := by decide +kernel
theorem d118_154 : decode (mB 118) 154 = .ok (.iconst 1, 1) := by decide +kernel
theorem d118_155 : decode (mB 118) 155 = .ok (.bastore, 1) := by decide +kernel
theorem d118_156 : decode (mB 118) 156 = .ok (.iinc 3 1, 3) := by decide +kernel
theorem d118_159 : decode (mB 118) 159 = .ok (.goto (-126), 3) := by decide +kernel
theorem d118_162 : decode (mB 118) 162 = .ok (.return_, 1) := by decide +kernel
theorem v118_0 (L : Nat) (xs : Nat → Int32) : zVal L xs 118 0 (.inl (i_c (.int 0) 1)) := zS_iconst d118_0 (by decide)
theorem v118_1 (L : Nat) (xs : Nat → Int32) : zVal L xs 118 1 (.inl (i_is 2 2)) := zS_istore_n d118_1 rfl
theorem v118_2 (L : Nat) (xs : Nat → Int32) : zVal L xs 118 2 (.inl (i_k [false, false, false, true, true, true] (i_il 2 3))) := zS_k (zS_iload_n d118_2 rfl)
theorem v118_3 (L : Nat) (xs : Nat → Int32) : zVal L xs 118 3 (.inl (i_c (.int 192) 6)) := zS_sipush d118_3 (by decide)
theorem v118_6 (L : Nat) (xs : Nat → Int32) : zVal L xs 118 6 (.inl (i_f2 (fun x y => decide (y < x)) 29 9)) := zS_icmp_gt d118_6 (by decide)
theorem v118_9 (L : Nat) (xs : Nat → Int32) : zVal L xs 118 9 (.inl (i_al 0 10)) := zS_aload_n d118_9 rfl
theorem v118_10 (L : Nat) (xs : Nat → Int32) : zVal L xs 118 10 (.inl (i_gf 10 31 13)) := zS_getf d118_10 (zcl10) (by decide) zi10 w809
theorem v118_13 (L : Nat) (xs : Nat → Int32) : zVal L xs 118 13 (.inl (i_il 2 14)) := zS_iload_n d118_13 rfl
theorem v118_14 (L : Nat) (xs : Nat → Int32) : zVal L xs 118 14 (.inl (i_c (.int 0) 15)) := zS_iconst d118_14 (by decide)
theorem v118_15 (L : Nat) (xs : Nat → Int32) : zVal L xs 118 15 (.inl (i_pa 3 (vp_nar .boolean) 16)) := zS_zast d118_15
theorem v118_16 (L : Nat) (xs : Nat → Int32) : zVal L xs 118 16 (.inl (i_al 0 17)) := zS_aload_n d118_16 rfl
theorem v118_17 (L : Nat) (xs : Nat → Int32) : zVal L xs 118 17 (.inl (i_gf 10 32 20)) := zS_getf d118_17 (zcl10) (by decide) zi10 w810
theorem v118_20 (L : Nat) (xs : Nat → Int32) : zVal L xs 118 20 (.inl (i_il 2 21)) := zS_iload_n d118_20 rfl
theorem v118_21 (L : Nat) (xs : Nat → Int32) : zVal L xs 118 21 (.inl (i_c (.int 0) 22)) := zS_iconst d118_21 (by decide)
theorem v118_22 (L : Nat) (xs : Nat → Int32) : zVal L xs 118 22 (.inl (i_pa 3 (vp_nar .boolean) 23)) := zS_zast d118_22
theorem v118_23 (L : Nat) (xs : Nat → Int32) : zVal L xs 118 23 (.inl (i_in 2 1 26)) := zS_iinc d118_23 (by decide)
theorem v118_26 (L : Nat) (xs : Nat → Int32) : zVal L xs 118 26 (.inl (i_go 2)) := zS_goto d118_26 (by decide)
theorem v118_29 (L : Nat) (xs : Nat → Int32) : zVal L xs 118 29 (.inl (i_c (.int 0) 30)) := zS_iconst d118_29 (by decide)
theorem v118_30 (L : Nat) (xs : Nat → Int32) : zVal L xs 118 30 (.inl (i_is 2 31)) := zS_istore_n d118_30 rfl
theorem v118_31 (L : Nat) (xs : Nat → Int32) : zVal L xs 118 31 (.inl (i_c (.int 0) 32)) := zS_iconst d118_31 (by decide)
theorem v118_32 (L : Nat) (xs : Nat → Int32) : zVal L xs 118 32 (.inl (i_is 3 33)) := zS_istore_n d118_32 rfl
theorem v118_33 (L : Nat) (xs : Nat → Int32) : zVal L xs 118 33 (.inl (i_k [false, false, false, false, true, true] (i_il 3 34))) := zS_k (zS_iload_n d118_33 rfl)
theorem v118_34 (L : Nat) (xs : Nat → Int32) : zVal L xs 118 34 (.inl (i_al 0 35)) := zS_aload_n d118_34 rfl
theorem v118_35 (L : Nat) (xs : Nat → Int32) : zVal L xs 118 35 (.inl (i_gf 10 20 38)) := zS_getf d118_35 (zcl10) (by decide) zi10 w798
theorem v118_38 (L : Nat) (xs : Nat → Int32) : zVal L xs 118 38 (.inl (i_il 1 39)) := zS_iload_n d118_38 rfl
theorem v118_39 (L : Nat) (xs : Nat → Int32) : zVal L xs 118 39 (.inl (i_ga 0 40)) := zS_iald d118_39
theorem v118_40 (L : Nat) (xs : Nat → Int32) : zVal L xs 118 40 (.inl (i_f2 (fun x y => decide (y ≤ x)) 162 43)) := zS_icmp_ge d118_40 (by decide)
theorem v118_43 (L : Nat) (xs : Nat → Int32) : zVal L xs 118 43 (.inl (i_al 0 44)) := zS_aload_n d118_43 rfl
theorem v118_44 (L : Nat) (xs : Nat → Int32) : zVal L xs 118 44 (.inl (i_gf 10 19 47)) := zS_getf d118_44 (zcl10) (by decide) zi10 w797
theorem v118_47 (L : Nat) (xs : Nat → Int32) : zVal L xs 118 47 (.inl (i_c (.int 16) 49)) := zS_bipush d118_47 (by decide)
theorem v118_49 (L : Nat) (xs : Nat → Int32) : zVal L xs 118 49 (.inl (i_il 1 50)) := zS_iload_n d118_49 rfl
theorem v118_50 (L : Nat) (xs : Nat → Int32) : zVal L xs 118 50 (.inl (i_bi (fun x y => x * y) 51)) := zS_imul d118_50
theorem v118_51 (L : Nat) (xs : Nat → Int32) : zVal L xs 118 51 (.inl (i_il 3 52)) := zS_iload_n d118_51 rfl
theorem v118_52 (L : Nat) (xs : Nat → Int32) : zVal L xs 118 52 (.inl (i_bi (fun x y => x + y) 53)) := zS_iadd d118_52
theorem v118_53 (L : Nat) (xs : Nat → Int32) : zVal L xs 118 53 (.inl (i_ga 0 54)) := zS_iald d118_53
theorem v118_54 (L : Nat) (xs : Nat → Int32) : zVal L xs 118 54 (.inl (i_il 2 55)) := zS_iload_n d118_54 rfl
theorem v118_55 (L : Nat) (xs : Nat → Int32) : zVal L xs 118 55 (.inl (i_bi (fun x y => x - y) 56)) := zS_isub d118_55
theorem v118_56 (L : Nat) (xs : Nat → Int32) : zVal L xs 118 56 (.inl (i_is 4 58)) := zS_istore d118_56
theorem v118_58 (L : Nat) (xs : Nat → Int32) : zVal L xs 118 58 (.inl (i_c (.int 0) 59)) := zS_iconst d118_58 (by decide)
theorem v118_59 (L : Nat) (xs : Nat → Int32) : zVal L xs 118 59 (.inl (i_is 5 61)) := zS_istore d118_59
theorem v118_61 (L : Nat) (xs : Nat → Int32) : zVal L xs 118 61 (.inl (i_k [false, false, false, false, false, false] (i_il 5 63))) := zS_k (zS_iload d118_61)
theorem v118_63 (L : Nat) (xs : Nat → Int32) : zVal L xs 118 63 (.inl (i_il 4 65)) := zS_iload d118_63
theorem v118_65 (L : Nat) (xs : Nat → Int32) : zVal L xs 118 65 (.inl (i_f2 (fun x y => decide (y ≤ x)) 98 68)) := zS_icmp_ge d118_65 (by decide)
theorem v118_68 (L : Nat) (xs : Nat → Int32) : zVal L xs 118 68 (.inl (i_al 0 69)) := zS_aload_n d118_68 rfl
theorem v118_69 (L : Nat) (xs : Nat → Int32) : zVal L xs 118 69 (.inl (i_gf 10 9 72)) := zS_getf d118_69 (zcl10) (by decide) zi10 w787
theorem v118_72 (L : Nat) (xs : Nat → Int32) : zVal L xs 118 72 (.inl (i_c (.int 1) 73)) := zS_iconst d118_72 (by decide)
theorem v118_73 (L : Nat) (xs : Nat → Int32) : zVal L xs 118 73 (.inl (i_il 5 75)) := zS_iload d118_73
theorem v118_75 (L : Nat) (xs : Nat → Int32) : zVal L xs 118 75 (.inl (i_bi (fun x y => x + y) 76)) := zS_iadd d118_75
theorem v118_76 (L : Nat) (xs : Nat → Int32) : zVal L xs 118 76 (.inl (i_al 0 77)) := zS_aload_n d118_76 rfl
theorem v118_77 (L : Nat) (xs : Nat → Int32) : zVal L xs 118 77 (.inl (i_gf 10 18 80)) := zS_getf d118_77 (zcl10) (by decide) zi10 w796
theorem v118_80 (L : Nat) (xs : Nat → Int32) : zVal L xs 118 80 (.inl (i_c (.int 192) 83)) := zS_sipush d118_80 (by decide)
theorem v118_83 (L : Nat) (xs : Nat → Int32) : zVal L xs 118 83 (.inl (i_il 1 84)) := zS_iload_n d118_83 rfl
theorem v118_84 (L : Nat) (xs : Nat → Int32) : zVal L xs 118 84 (.inl (i_bi (fun x y => x * y) 85)) := zS_imul d118_84
theorem v118_85 (L : Nat) (xs : Nat → Int32) : zVal L xs 118 85 (.inl (i_il 2 86)) := zS_iload_n d118_85 rfl
theorem v118_86 (L : Nat) (xs : Nat → Int32) : zVal L xs 118 86 (.inl (i_bi (fun x y => x + y) 87)) := zS_iadd d118_86
theorem v118_87 (L : Nat) (xs : Nat → Int32) : zVal L xs 118 87 (.inl (i_il 5 89)) := zS_iload d118_87
theorem v118_89 (L : Nat) (xs : Nat → Int32) : zVal L xs 118 89 (.inl (i_bi (fun x y => x + y) 90)) := zS_iadd d118_89
theorem v118_90 (L : Nat) (xs : Nat → Int32) : zVal L xs 118 90 (.inl (i_ga 0 91)) := zS_iald d118_90
theorem v118_91 (L : Nat) (xs : Nat → Int32) : zVal L xs 118 91 (.inl (i_pa 0 (fun x => x) 92)) := zS_iast d118_91
theorem v118_92 (L : Nat) (xs : Nat → Int32) : zVal L xs 118 92 (.inl (i_in 5 1 95)) := zS_iinc d118_92 (by decide)
theorem v118_95 (L : Nat) (xs : Nat → Int32) : zVal L xs 118 95 (.inl (i_go 61)) := zS_goto d118_95 (by decide)
theorem v118_98 (L : Nat) (xs : Nat → Int32) : zVal L xs 118 98 (.inl (i_al 0 99)) := zS_aload_n d118_98 rfl
theorem v118_99 (L : Nat) (xs : Nat → Int32) : zVal L xs 118 99 (.inl (i_il 4 101)) := zS_iload d118_99
theorem v118_101 (L : Nat) (xs : Nat → Int32) : zVal L xs 118 101 (.inr (.inl (102, 2, 11))) := ⟨by decide +kernel, by decide +kernel, zc_virt d118_101 zcl10 w947 w944 w946 w36 w85 ⟨by decide +kernel, by decide +kernel, by decide +kernel⟩ (by decide) (by decide)⟩
theorem v118_104 (L : Nat) (xs : Nat → Int32) : zVal L xs 118 104 (.inl (i_c (.int 1) 105)) := zS_iconst d118_104 (by decide)
theorem v118_105 (L : Nat) (xs : Nat → Int32) : zVal L xs 118 105 (.inl (i_is 5 107)) := zS_istore d118_105
theorem v118_107 (L : Nat) (xs : Nat → Int32) : zVal L xs 118 107 (.inl (i_k [false, false, false, false, false, false] (i_il 5 109))) := zS_k (zS_iload d118_107)
theorem v118_109 (L : Nat) (xs : Nat → Int32) : zVal L xs 118 109 (.inl (i_il 4 111)) := zS_iload d118_109
theorem v118_111 (L : Nat) (xs : Nat → Int32) : zVal L xs 118 111 (.inl (i_f2 (fun x y => decide (y ≤ x)) 137 114)) := zS_icmp_ge d118_111 (by decide)
theorem v118_114 (L : Nat) (xs : Nat → Int32) : zVal L xs 118 114 (.inl (i_al 0 115)) := zS_aload_n d118_114 rfl
theorem v118_115 (L : Nat) (xs : Nat → Int32) : zVal L xs 118 115 (.inl (i_gf 10 31 118)) := zS_getf d118_115 (zcl10) (by decide) zi10 w809
theorem v118_118 (L : Nat) (xs : Nat → Int32) : zVal L xs 118 118 (.inl (i_il 2 119)) := zS_iload_n d118_118 rfl
theorem v118_119 (L : Nat) (xs : Nat → Int32) : zVal L xs 118 119 (.inl (i_il 5 121)) := zS_iload d118_119
theorem v118_121 (L : Nat) (xs : Nat → Int32) : zVal L xs 118 121 (.inl (i_bi (fun x y => x + y) 122)) := zS_iadd d118_121
theorem v118_122 (L : Nat) (xs : Nat → Int32) : zVal L xs 118 122 (.inl (i_al 0 123)) := zS_aload_n d118_122 rfl
theorem v118_123 (L : Nat) (xs : Nat → Int32) : zVal L xs 118 123 (.inl (i_il 5 125)) := zS_iload d118_123
theorem v118_125 (L : Nat) (xs : Nat → Int32) : zVal L xs 118 125 (.inl (i_il 4 127)) := zS_iload d118_125
theorem v118_127 (L : Nat) (xs : Nat → Int32) : zVal L xs 118 127 (.inr (.inl (103, 3, 11))) := ⟨by decide +kernel, by decide +kernel, zc_virt d118_127 zcl10 w955 w952 w954 w38 w85 ⟨by decide +kernel, by decide +kernel, by decide +kernel⟩ (by decide) (by decide)⟩
theorem v118_130 (L : Nat) (xs : Nat → Int32) : zVal L xs 118 130 (.inl (i_pa 3 (vp_nar .boolean) 131)) := zS_zast d118_130
theorem v118_131 (L : Nat) (xs : Nat → Int32) : zVal L xs 118 131 (.inl (i_in 5 1 134)) := zS_iinc d118_131 (by decide)
theorem v118_134 (L : Nat) (xs : Nat → Int32) : zVal L xs 118 134 (.inl (i_go 107)) := zS_goto d118_134 (by decide)
theorem v118_137 (L : Nat) (xs : Nat → Int32) : zVal L xs 118 137 (.inl (i_il 2 138)) := zS_iload_n d118_137 rfl
theorem v118_138 (L : Nat) (xs : Nat → Int32) : zVal L xs 118 138 (.inl (i_il 4 140)) := zS_iload d118_138
theorem v118_140 (L : Nat) (xs : Nat → Int32) : zVal L xs 118 140 (.inl (i_bi (fun x y => x + y) 141)) := zS_iadd d118_140
theorem v118_141 (L : Nat) (xs : Nat → Int32) : zVal L xs 118 141 (.inl (i_is 2 142)) := zS_istore_n d118_141 rfl
theorem v118_142 (L : Nat) (xs : Nat → Int32) : zVal L xs 118 142 (.inl (i_al 0 143)) := zS_aload_n d118_142 rfl
theorem v118_143 (L : Nat) (xs : Nat → Int32) : zVal L xs 118 143 (.inl (i_gf 10 31 146)) := zS_getf d118_143 (zcl10) (by decide) zi10 w809
theorem v118_146 (L : Nat) (xs : Nat → Int32) : zVal L xs 118 146 (.inl (i_il 2 147)) := zS_iload_n d118_146 rfl
theorem v118_147 (L : Nat) (xs : Nat → Int32) : zVal L xs 118 147 (.inl (i_c (.int 1) 148)) := zS_iconst d118_147 (by decide)
theorem v118_148 (L : Nat) (xs : Nat → Int32) : zVal L xs 118 148 (.inl (i_pa 3 (vp_nar .boolean) 149)) := zS_zast d118_148
theorem v118_149 (L : Nat) (xs : Nat → Int32) : zVal L xs 118 149 (.inl (i_al 0 150)) := zS_aload_n d118_149 rfl
theorem v118_150 (L : Nat) (xs : Nat → Int32) : zVal L xs 118 150 (.inl (i_gf 10 32 153)) := zS_getf d118_150 (zcl10) (by decide) zi10 w810
theorem v118_153 (L : Nat) (xs : Nat → Int32) : zVal L xs 118 153 (.inl (i_il 2 154)) := zS_iload_n d118_153 rfl
theorem v118_154 (L : Nat) (xs : Nat → Int32) : zVal L xs 118 154 (.inl (i_c (.int 1) 155)) := zS_iconst d118_154 (by decide)
theorem v118_155 (L : Nat) (xs : Nat → Int32) : zVal L xs 118 155 (.inl (i_pa 3 (vp_nar .boolean) 156)) := zS_zast d118_155
theorem v118_156 (L : Nat) (xs : Nat → Int32) : zVal L xs 118 156 (.inl (i_in 3 1 159)) := zS_iinc d118_156 (by decide)
theorem v118_159 (L : Nat) (xs : Nat → Int32) : zVal L xs 118 159 (.inl (i_go 33)) := zS_goto d118_159 (by decide)
theorem v118_162 (L : Nat) (xs : Nat → Int32) : zVal L xs 118 162 (.inr (.inr 0)) := zr_0 d118_162 rfl
theorem vt118 (L : Nat) (xs : Nat → Int32) : zAll (fun x => zVal L xs 118 x.1 x.2) (tb118) := ⟨v118_0 L xs, v118_1 L xs, v118_2 L xs, v118_3 L xs, v118_6 L xs, v118_9 L xs, v118_10 L xs, v118_13 L xs, v118_14 L xs, v118_15 L xs, v118_16 L xs, v118_17 L xs, v118_20 L xs, v118_21 L xs, v118_22 L xs, v118_23 L xs, v118_26 L xs, v118_29 L xs, v118_30 L xs, v118_31 L xs, v118_32 L xs, v118_33 L xs, v118_34 L xs, v118_35 L xs, v118_38 L xs, v118_39 L xs, v118_40 L xs, v118_43 L xs, v118_44 L xs, v118_47 L xs, v118_49 L xs, v118_50 L xs, v118_51 L xs, v118_52 L xs, v118_53 L xs, v118_54 L xs, v118_55 L xs, v118_56 L xs, v118_58 L xs, v118_59 L xs, v118_61 L xs, v118_63 L xs, v118_65 L xs, v118_68 L xs, v118_69 L xs, v118_72 L xs, v118_73 L xs, v118_75 L xs, v118_76 L xs, v118_77 L xs, v118_80 L xs, v118_83 L xs, v118_84 L xs, v118_85 L xs, v118_86 L xs, v118_87 L xs, v118_89 L xs, v118_90 L xs, v118_91 L xs, v118_92 L xs, v118_95 L xs, v118_98 L xs, v118_99 L xs, v118_101 L xs, v118_104 L xs, v118_105 L xs, v118_107 L xs, v118_109 L xs, v118_111 L xs, v118_114 L xs, v118_115 L xs, v118_118 L xs, v118_119 L xs, v118_121 L xs, v118_122 L xs, v118_123 L xs, v118_125 L xs, v118_127 L xs, v118_130 L xs, v118_131 L xs, v118_134 L xs, v118_137 L xs, v118_138 L xs, v118_140 L xs, v118_141 L xs, v118_142 L xs, v118_143 L xs, v118_146 L xs, v118_147 L xs, v118_148 L xs, v118_149 L xs, v118_150 L xs, v118_153 L xs, v118_154 L xs, v118_155 L xs, v118_156 L xs, v118_159 L xs, v118_162 L xs, trivial⟩
theorem d119_0 : decode (mB 119) 0 = .ok (.iconst 0, 1) := by decide +kernel
theorem d119_1 : decode (mB 119) 1 = .ok (.istore_n 3, 1) := by decide +kernel
theorem d119_2 : decode (mB 119) 2 = .ok (.iconst 0, 1) := by decide +kernel
theorem d119_3 : decode (mB 119) 3 = .ok (.istore 4, 2) := by decide +kernel
theorem d119_5 : decode (mB 119) 5 = .ok (.iload 4, 2) := by decide +kernel
theorem d119_7 : decode (mB 119) 7 = .ok (.aload_n 0, 1) := by decide +kernel
theorem d119_8 : decode (mB 119) 8 = .ok (.getfield 52, 3) := by decide +kernel
theorem d119_11 : decode (mB 119) 11 = .ok (.iload_n 1, 1) := by decide +kernel
theorem d119_12 : decode (mB 119) 12 = .ok (.iaload, 1) := by decide +kernel
theorem d119_13 : decode (mB 119) 13 = .ok (.if_icmp .ge 35, 3) := by decide +kernel
theorem d119_16 : decode (mB 119) 16 = .ok (.iload_n 3, 1) := by decide +kernel
theorem d119_17 : decode (mB 119) 17 = .ok (.ifCond .ne 19, 3) := by decide +kernel
theorem d119_20 : decode (mB 119) 20 = .ok (.aload_n 0, 1) := by decide +kernel
theorem d119_21 : decode (mB 119) 21 = .ok (.getfield 49, 3) := by decide +kernel
theorem d119_24 : decode (mB 119) 24 = .ok (.bipush 16, 2) := by decide +kernel
theorem d119_26 : decode (mB 119) 26 = .ok (.iload_n 1, 1) := by decide +kernel
theorem d119_27 : decode (mB 119) 27 = .ok (.imul, 1) := by decide +kernel
theorem d119_28 : decode (mB 119) 28 = .ok (.iload 4, 2) := by decide +kernel
theorem d119_30 : decode (mB 119) 30 = .ok (.iadd, 1) := by decide +kernel
theorem d119_31 : decode (mB 119) 31 = .ok (.iaload, 1) := by decide +kernel
theorem d119_32 : decode (mB 119) 32 = .ok (.iload_n 2, 1) := by decide +kernel
theorem d119_33 : decode (mB 119) 33 = .ok (.if_icmp .ne 7, 3) := by decide +kernel
theorem d119_36 : decode (mB 119) 36 = .ok (.iconst 1, 1) := by decide +kernel
theorem d119_37 : decode (mB 119) 37 = .ok (.goto 4, 3) := by decide +kernel
theorem d119_40 : decode (mB 119) 40 = .ok (.iconst 0, 1) := by decide +kernel
theorem d119_41 : decode (mB 119) 41 = .ok (.istore_n 3, 1) := by decide +kernel
theorem d119_42 : decode (mB 119) 42 = .ok (.iinc 4 1, 3) := by decide +kernel
theorem d119_45 : decode (mB 119) 45 = .ok (.goto (-40), 3) := by decide +kernel
theorem d119_48 : decode (mB 119) 48 = .ok (.iload_n 3, 1) := by decide +kernel
theorem d119_49 : decode (mB 119) 49 = .ok (.ireturn, 1) := by decide +kernel
theorem v119_0 (L : Nat) (xs : Nat → Int32) : zVal L xs 119 0 (.inl (i_c (.int 0) 1)) := zS_iconst d119_0 (by decide)
theorem v119_1 (L : Nat) (xs : Nat → Int32) : zVal L xs 119 1 (.inl (i_is 3 2)) := zS_istore_n d119_1 rfl
theorem v119_2 (L : Nat) (xs : Nat → Int32) : zVal L xs 119 2 (.inl (i_c (.int 0) 3)) := zS_iconst d119_2 (by decide)
theorem v119_3 (L : Nat) (xs : Nat → Int32) : zVal L xs 119 3 (.inl (i_is 4 5)) := zS_istore d119_3
theorem v119_5 (L : Nat) (xs : Nat → Int32) : zVal L xs 119 5 (.inl (i_k [false, false, false, false, false] (i_il 4 7))) := zS_k (zS_iload d119_5)
theorem v119_7 (L : Nat) (xs : Nat → Int32) : zVal L xs 119 7 (.inl (i_al 0 8)) := zS_aload_n d119_7 rfl
theorem v119_8 (L : Nat) (xs : Nat → Int32) : zVal L xs 119 8 (.inl (i_gf 10 20 11)) := zS_getf d119_8 (zcl10) (by decide) zi10 w798
theorem v119_11 (L : Nat) (xs : Nat → Int32) : zVal L xs 119 11 (.inl (i_il 1 12)) := zS_iload_n d119_11 rfl
theorem v119_12 (L : Nat) (xs : Nat → Int32) : zVal L xs 119 12 (.inl (i_ga 0 13)) := zS_iald d119_12
theorem v119_13 (L : Nat) (xs : Nat → Int32) : zVal L xs 119 13 (.inl (i_f2 (fun x y => decide (y ≤ x)) 48 16)) := zS_icmp_ge d119_13 (by decide)
theorem v119_16 (L : Nat) (xs : Nat → Int32) : zVal L xs 119 16 (.inl (i_il 3 17)) := zS_iload_n d119_16 rfl
theorem v119_17 (L : Nat) (xs : Nat → Int32) : zVal L xs 119 17 (.inl (i_f1 (fun x => decide (¬ x = 0)) 36 20)) := zS_if_ne d119_17 (by decide)
theorem v119_20 (L : Nat) (xs : Nat → Int32) : zVal L xs 119 20 (.inl (i_al 0 21)) := zS_aload_n d119_20 rfl
theorem v119_21 (L : Nat) (xs : Nat → Int32) : zVal L xs 119 21 (.inl (i_gf 10 19 24)) := zS_getf d119_21 (zcl10) (by decide) zi10 w797
theorem v119_24 (L : Nat) (xs : Nat → Int32) : zVal L xs 119 24 (.inl (i_c (.int 16) 26)) := zS_bipush d119_24 (by decide)
theorem v119_26 (L : Nat) (xs : Nat → Int32) : zVal L xs 119 26 (.inl (i_il 1 27)) := zS_iload_n d119_26 rfl
theorem v119_27 (L : Nat) (xs : Nat → Int32) : zVal L xs 119 27 (.inl (i_bi (fun x y => x * y) 28)) := zS_imul d119_27
theorem v119_28 (L : Nat) (xs : Nat → Int32) : zVal L xs 119 28 (.inl (i_il 4 30)) := zS_iload d119_28
theorem v119_30 (L : Nat) (xs : Nat → Int32) : zVal L xs 119 30 (.inl (i_bi (fun x y => x + y) 31)) := zS_iadd d119_30
theorem v119_31 (L : Nat) (xs : Nat → Int32) : zVal L xs 119 31 (.inl (i_ga 0 32)) := zS_iald d119_31
theorem v119_32 (L : Nat) (xs : Nat → Int32) : zVal L xs 119 32 (.inl (i_il 2 33)) := zS_iload_n d119_32 rfl
theorem v119_33 (L : Nat) (xs : Nat → Int32) : zVal L xs 119 33 (.inl (i_f2 (fun x y => decide (¬ x = y)) 40 36)) := zS_icmp_ne d119_33 (by decide)
theorem v119_36 (L : Nat) (xs : Nat → Int32) : zVal L xs 119 36 (.inl (i_k [false, false, false, true, false] (i_c (.int 1) 37))) := zS_k (zS_iconst d119_36 (by decide))
theorem v119_37 (L : Nat) (xs : Nat → Int32) : zVal L xs 119 37 (.inl (i_go 41)) := zS_goto d119_37 (by decide)
theorem v119_40 (L : Nat) (xs : Nat → Int32) : zVal L xs 119 40 (.inl (i_c (.int 0) 41)) := zS_iconst d119_40 (by decide)
theorem v119_41 (L : Nat) (xs : Nat → Int32) : zVal L xs 119 41 (.inl (i_k [false, false, false, true, false] (i_is 3 42))) := zS_k (zS_istore_n d119_41 rfl)
theorem v119_42 (L : Nat) (xs : Nat → Int32) : zVal L xs 119 42 (.inl (i_in 4 1 45)) := zS_iinc d119_42 (by decide)
theorem v119_45 (L : Nat) (xs : Nat → Int32) : zVal L xs 119 45 (.inl (i_go 5)) := zS_goto d119_45 (by decide)
theorem v119_48 (L : Nat) (xs : Nat → Int32) : zVal L xs 119 48 (.inl (i_il 3 49)) := zS_iload_n d119_48 rfl
theorem v119_49 (L : Nat) (xs : Nat → Int32) : zVal L xs 119 49 (.inr (.inr 2)) := zr_2 d119_49 rfl
theorem vt119 (L : Nat) (xs : Nat → Int32) : zAll (fun x => zVal L xs 119 x.1 x.2) (tb119) := ⟨v119_0 L xs, v119_1 L xs, v119_2 L xs, v119_3 L xs, v119_5 L xs, v119_7 L xs, v119_8 L xs, v119_11 L xs, v119_12 L xs, v119_13 L xs, v119_16 L xs, v119_17 L xs, v119_20 L xs, v119_21 L xs, v119_24 L xs, v119_26 L xs, v119_27 L xs, v119_28 L xs, v119_30 L xs, v119_31 L xs, v119_32 L xs, v119_33 L xs, v119_36 L xs, v119_37 L xs, v119_40 L xs, v119_41 L xs, v119_42 L xs, v119_45 L xs, v119_48 L xs, v119_49 L xs, trivial⟩
theorem d120_0 : decode (mB 120) 0 = .ok (.iconst 0, 1) := by decide +kernel
theorem d120_1 : decode (mB 120) 1 = .ok (.istore 4, 2) := by decide +kernel
theorem d120_3 : decode (mB 120) 3 = .ok (.iload_n 2, 1) := by decide +kernel
theorem d120_4 : decode (mB 120) 4 = .ok (.iconst 1, 1) := by decide +kernel
theorem d120_5 : decode (mB 120) 5 = .ok (.iadd, 1) := by decide +kernel
theorem d120_6 : decode (mB 120) 6 = .ok (.istore 5, 2) := by decide +kernel
theorem d120_8 : decode (mB 120) 8 = .ok (.iload 5, 2) := by decide +kernel
theorem d120_10 : decode (mB 120) 10 = .ok (.iload_n 3, 1) := by decide +kernel
theorem d120_11 : decode (mB 120) 11 = .ok (.if_icmp .ge 30, 3) := by decide +kernel
theorem d120_14 : decode (mB 120) 14 = .ok (.aload_n 0, 1) := by decide +kernel
theorem d120_15 : decode (mB 120) 15 = .ok (.iload_n 1, 1) := by decide +kernel
theorem d120_16 : decode (mB 120) 16 = .ok (.iload 5, 2) := by decide +kernel
theorem d120_18 : decode (mB 120) 18 = .ok (.invokevirtual 199, 3) := by decide +kernel
theorem d120_21 : decode (mB 120) 21 = .ok (.ifCond .eq 10, 3) := by decide +kernel
theorem d120_24 : decode (mB 120) 24 = .ok (.iload 4, 2) := by decide +kernel
theorem d120_26 : decode (mB 120) 26 = .ok (.iconst 1, 1) := by decide +kernel
theorem d120_27 : decode (mB 120) 27 = .ok (.iadd, 1) := by decide +kernel
theorem d120_28 : decode (mB 120) 28 = .ok (.goto 5, 3) := by decide +kernel
theorem d120_31 : decode (mB 120) 31 = .ok (.iload 4, 2) := by decide +kernel
theorem d120_33 : decode (mB 120) 33 = .ok (.istore 4, 2) := by decide +kernel
theorem d120_35 : decode (mB 120) 35 = .ok (.iinc 5 1, 3) := by decide +kernel
theorem d120_38 : decode (mB 120) 38 = .ok (.goto (-30), 3) := by decide +kernel
theorem d120_41 : decode (mB 120) 41 = .ok (.iload 4, 2) := by decide +kernel
theorem d120_43 : decode (mB 120) 43 = .ok (.ireturn, 1) := by decide +kernel
theorem v120_0 (L : Nat) (xs : Nat → Int32) : zVal L xs 120 0 (.inl (i_c (.int 0) 1)) := zS_iconst d120_0 (by decide)
theorem v120_1 (L : Nat) (xs : Nat → Int32) : zVal L xs 120 1 (.inl (i_is 4 3)) := zS_istore d120_1
theorem v120_3 (L : Nat) (xs : Nat → Int32) : zVal L xs 120 3 (.inl (i_il 2 4)) := zS_iload_n d120_3 rfl
theorem v120_4 (L : Nat) (xs : Nat → Int32) : zVal L xs 120 4 (.inl (i_c (.int 1) 5)) := zS_iconst d120_4 (by decide)
theorem v120_5 (L : Nat) (xs : Nat → Int32) : zVal L xs 120 5 (.inl (i_bi (fun x y => x + y) 6)) := zS_iadd d120_5
theorem v120_6 (L : Nat) (xs : Nat → Int32) : zVal L xs 120 6 (.inl (i_is 5 8)) := zS_istore d120_6
theorem v120_8 (L : Nat) (xs : Nat → Int32) : zVal L xs 120 8 (.inl (i_k [false, false, true, false, false, false] (i_il 5 10))) := zS_k (zS_iload d120_8)
theorem v120_10 (L : Nat) (xs : Nat → Int32) : zVal L xs 120 10 (.inl (i_il 3 11)) := zS_iload_n d120_10 rfl
theorem v120_11 (L : Nat) (xs : Nat → Int32) : zVal L xs 120 11 (.inl (i_f2 (fun x y => decide (y ≤ x)) 41 14)) := zS_icmp_ge d120_11 (by decide)
theorem v120_14 (L : Nat) (xs : Nat → Int32) : zVal L xs 120 14 (.inl (i_al 0 15)) := zS_aload_n d120_14 rfl
theorem v120_15 (L : Nat) (xs : Nat → Int32) : zVal L xs 120 15 (.inl (i_il 1 16)) := zS_iload_n d120_15 rfl
theorem v120_16 (L : Nat) (xs : Nat → Int32) : zVal L xs 120 16 (.inl (i_il 5 18)) := zS_iload d120_16
theorem v120_18 (L : Nat) (xs : Nat → Int32) : zVal L xs 120 18 (.inr (.inl (119, 3, 11))) := ⟨by decide +kernel, by decide +kernel, zc_virt d120_18 zcl10 w1120 w1117 w1119 w68 w85 ⟨by decide +kernel, by decide +kernel, by decide +kernel⟩ (by decide) (by decide)⟩
theorem v120_21 (L : Nat) (xs : Nat → Int32) : zVal L xs 120 21 (.inl (i_f1 (fun x => decide (x = 0)) 31 24)) := zS_if_eq d120_21 (by decide)
theorem v120_24 (L : Nat) (xs : Nat → Int32) : zVal L xs 120 24 (.inl (i_il 4 26)) := zS_iload d120_24
theorem v120_26 (L : Nat) (xs : Nat → Int32) : zVal L xs 120 26 (.inl (i_c (.int 1) 27)) := zS_iconst d120_26 (by decide)
theorem v120_27 (L : Nat) (xs : Nat → Int32) : zVal L xs 120 27 (.inl (i_bi (fun x y => x + y) 28)) := zS_iadd d120_27
theorem v120_28 (L : Nat) (xs : Nat → Int32) : zVal L xs 120 28 (.inl (i_go 33)) := zS_goto d120_28 (by decide)
theorem v120_31 (L : Nat) (xs : Nat → Int32) : zVal L xs 120 31 (.inl (i_il 4 33)) := zS_iload d120_31
theorem v120_33 (L : Nat) (xs : Nat → Int32) : zVal L xs 120 33 (.inl (i_k [false, false, true, false, true, false] (i_is 4 35))) := zS_k (zS_istore d120_33)
theorem v120_35 (L : Nat) (xs : Nat → Int32) : zVal L xs 120 35 (.inl (i_in 5 1 38)) := zS_iinc d120_35 (by decide)
theorem v120_38 (L : Nat) (xs : Nat → Int32) : zVal L xs 120 38 (.inl (i_go 8)) := zS_goto d120_38 (by decide)
theorem v120_41 (L : Nat) (xs : Nat → Int32) : zVal L xs 120 41 (.inl (i_il 4 43)) := zS_iload d120_41
theorem v120_43 (L : Nat) (xs : Nat → Int32) : zVal L xs 120 43 (.inr (.inr 1)) := zr_1 d120_43 rfl
theorem vt120 (L : Nat) (xs : Nat → Int32) : zAll (fun x => zVal L xs 120 x.1 x.2) (tb120) := ⟨v120_0 L xs, v120_1 L xs, v120_3 L xs, v120_4 L xs, v120_5 L xs, v120_6 L xs, v120_8 L xs, v120_10 L xs, v120_11 L xs, v120_14 L xs, v120_15 L xs, v120_16 L xs, v120_18 L xs, v120_21 L xs, v120_24 L xs, v120_26 L xs, v120_27 L xs, v120_28 L xs, v120_31 L xs, v120_33 L xs, v120_35 L xs, v120_38 L xs, v120_41 L xs, v120_43 L xs, trivial⟩
theorem d121_0 : decode (mB 121) 0 = .ok (.iconst 3, 1) := by decide +kernel
theorem d121_1 : decode (mB 121) 1 = .ok (.aload_n 0, 1) := by decide +kernel
theorem d121_2 : decode (mB 121) 2 = .ok (.iload_n 1, 1) := by decide +kernel
theorem d121_3 : decode (mB 121) 3 = .ok (.iload_n 2, 1) := by decide +kernel
theorem d121_4 : decode (mB 121) 4 = .ok (.iload_n 3, 1) := by decide +kernel
theorem d121_5 : decode (mB 121) 5 = .ok (.invokevirtual 202, 3) := by decide +kernel
theorem d121_8 : decode (mB 121) 8 = .ok (.imul, 1) := by decide +kernel
theorem d121_9 : decode (mB 121) 9 = .ok (.aload_n 0, 1) := by decide +kernel
theorem d121_10 : decode (mB 121) 10 = .ok (.iload_n 1, 1) := by decide +kernel
theorem d121_11 : decode (mB 121) 11 = .ok (.iload_n 3, 1) := by decide +kernel
theorem d121_12 : decode (mB 121) 12 = .ok (.invokevirtual 199, 3) := by decide +kernel
theorem d121_15 : decode (mB 121) 15 = .ok (.ifCond .eq 7, 3) := by decide +kernel
theorem d121_18 : decode (mB 121) 18 = .ok (.iconst 0, 1) := by decide +kernel
theorem d121_19 : decode (mB 121) 19 = .ok (.goto 4, 3) := by decide +kernel
theorem d121_22 : decode (mB 121) 22 = .ok (.iconst 2, 1) := by decide +kernel
theorem d121_23 : decode (mB 121) 23 = .ok (.iadd, 1) := by decide +kernel
theorem d121_24 : decode (mB 121) 24 = .ok (.istore 4, 2) := by decide +kernel
theorem d121_26 : decode (mB 121) 26 = .ok (.iload_n 2, 1) := by decide +kernel
theorem d121_27 : decode (mB 121) 27 = .ok (.istore 5, 2) := by decide +kernel
theorem d121_29 : decode (mB 121) 29 = .ok (.iload 5, 2) := by decide +kernel
theorem d121_31 : decode (mB 121) 31 = .ok (.iload_n 3, 1) := by decide +kernel
theorem d121_32 : decode (mB 121) 32 = .ok (.if_icmp .ge 35, 3) := by decide +kernel
theorem d121_35 : decode (mB 121) 35 = .ok (.iload 4, 2) := by decide +kernel
theorem d121_37 : decode (mB 121) 37 = .ok (.aload_n 0, 1) := by decide +kernel
theorem d121_38 : decode (mB 121) 38 = .ok (.getfield 13, 3) := by decide +kernel
theorem d121_41 : decode (mB 121) 41 = .ok (.aload_n 0, 1) := by decide +kernel
theorem d121_42 : decode (mB 121) 42 = .ok (.getfield 46, 3) := by decide +kernel
theorem d121_45 : decode (mB 121) 45 = .ok (.sipush 192, 3) := by decide +kernel
theorem d121_48 : decode (mB 121) 48 = .ok (.iload_n 1, 1) := by decide +kernel
theorem d121_49 : decode (mB 121) 49 = .ok (.imul, 1) := by decide +kernel
theorem d121_50 : decode (mB 121) 50 = .ok (.iload 5, 2) := by decide +kernel
theorem d121_52 : decode (mB 121) 52 = .ok (.iadd, 1) := by decide +kernel
theorem d121_53 : decode (mB 121) 53 = .ok (.iaload, 1) := by decide +kernel
theorem d121_54 : decode (mB 121) 54 = .ok (.bipush 97, 2) := by decide +kernel
theorem d121_56 : decode (mB 121) 56 = .ok (.isub, 1) := by decide +kernel
theorem d121_57 : decode (mB 121) 57 = .ok (.iaload, 1) := by decide +kernel
theorem d121_58 : decode (mB 121) 58 = .ok (.iadd, 1) := by decide +kernel
theorem d121_59 : decode (mB 121) 59 = .ok (.istore 4, 2) := by decide +kernel
theorem d121_61 : decode (mB 121) 61 = .ok (.iinc 5 1, 3) := by decide +kernel
theorem d121_64 : decode (mB 121) 64 = .ok (.goto (-35), 3) := by decide +kernel
theorem d121_67 : decode (mB 121) 67 = .ok (.iload 4, 2) := by decide +kernel
theorem d121_69 : decode (mB 121) 69 = .ok (.ireturn, 1) := by decide +kernel
theorem v121_0 (L : Nat) (xs : Nat → Int32) : zVal L xs 121 0 (.inl (i_c (.int 3) 1)) := zS_iconst d121_0 (by decide)
theorem v121_1 (L : Nat) (xs : Nat → Int32) : zVal L xs 121 1 (.inl (i_al 0 2)) := zS_aload_n d121_1 rfl
theorem v121_2 (L : Nat) (xs : Nat → Int32) : zVal L xs 121 2 (.inl (i_il 1 3)) := zS_iload_n d121_2 rfl
theorem v121_3 (L : Nat) (xs : Nat → Int32) : zVal L xs 121 3 (.inl (i_il 2 4)) := zS_iload_n d121_3 rfl
theorem v121_4 (L : Nat) (xs : Nat → Int32) : zVal L xs 121 4 (.inl (i_il 3 5)) := zS_iload_n d121_4 rfl
theorem v121_5 (L : Nat) (xs : Nat → Int32) : zVal L xs 121 5 (.inr (.inl (120, 4, 11))) := ⟨by decide +kernel, by decide +kernel, zc_virt d121_5 zcl10 w1128 w1125 w1127 w70 w85 ⟨by decide +kernel, by decide +kernel, by decide +kernel⟩ (by decide) (by decide)⟩
theorem v121_8 (L : Nat) (xs : Nat → Int32) : zVal L xs 121 8 (.inl (i_bi (fun x y => x * y) 9)) := zS_imul d121_8
theorem v121_9 (L : Nat) (xs : Nat → Int32) : zVal L xs 121 9 (.inl (i_al 0 10)) := zS_aload_n d121_9 rfl
theorem v121_10 (L : Nat) (xs : Nat → Int32) : zVal L xs 121 10 (.inl (i_il 1 11)) := zS_iload_n d121_10 rfl
theorem v121_11 (L : Nat) (xs : Nat → Int32) : zVal L xs 121 11 (.inl (i_il 3 12)) := zS_iload_n d121_11 rfl
theorem v121_12 (L : Nat) (xs : Nat → Int32) : zVal L xs 121 12 (.inr (.inl (119, 3, 11))) := ⟨by decide +kernel, by decide +kernel, zc_virt d121_12 zcl10 w1120 w1117 w1119 w68 w85 ⟨by decide +kernel, by decide +kernel, by decide +kernel⟩ (by decide) (by decide)⟩
theorem v121_15 (L : Nat) (xs : Nat → Int32) : zVal L xs 121 15 (.inl (i_f1 (fun x => decide (x = 0)) 22 18)) := zS_if_eq d121_15 (by decide)
theorem v121_18 (L : Nat) (xs : Nat → Int32) : zVal L xs 121 18 (.inl (i_c (.int 0) 19)) := zS_iconst d121_18 (by decide)
theorem v121_19 (L : Nat) (xs : Nat → Int32) : zVal L xs 121 19 (.inl (i_go 23)) := zS_goto d121_19 (by decide)
theorem v121_22 (L : Nat) (xs : Nat → Int32) : zVal L xs 121 22 (.inl (i_c (.int 2) 23)) := zS_iconst d121_22 (by decide)
theorem v121_23 (L : Nat) (xs : Nat → Int32) : zVal L xs 121 23 (.inl (i_k [false, false, false, false, true, true] (i_bi (fun x y => x + y) 24))) := zS_k (zS_iadd d121_23)
theorem v121_24 (L : Nat) (xs : Nat → Int32) : zVal L xs 121 24 (.inl (i_is 4 26)) := zS_istore d121_24
theorem v121_26 (L : Nat) (xs : Nat → Int32) : zVal L xs 121 26 (.inl (i_il 2 27)) := zS_iload_n d121_26 rfl
theorem v121_27 (L : Nat) (xs : Nat → Int32) : zVal L xs 121 27 (.inl (i_is 5 29)) := zS_istore d121_27
theorem v121_29 (L : Nat) (xs : Nat → Int32) : zVal L xs 121 29 (.inl (i_k [false, false, true, false, false, false] (i_il 5 31))) := zS_k (zS_iload d121_29)
theorem v121_31 (L : Nat) (xs : Nat → Int32) : zVal L xs 121 31 (.inl (i_il 3 32)) := zS_iload_n d121_31 rfl
theorem v121_32 (L : Nat) (xs : Nat → Int32) : zVal L xs 121 32 (.inl (i_f2 (fun x y => decide (y ≤ x)) 67 35)) := zS_icmp_ge d121_32 (by decide)
theorem v121_35 (L : Nat) (xs : Nat → Int32) : zVal L xs 121 35 (.inl (i_il 4 37)) := zS_iload d121_35
theorem v121_37 (L : Nat) (xs : Nat → Int32) : zVal L xs 121 37 (.inl (i_al 0 38)) := zS_aload_n d121_37 rfl
theorem v121_38 (L : Nat) (xs : Nat → Int32) : zVal L xs 121 38 (.inl (i_gf 10 4 41)) := zS_getf d121_38 (zcl10) (by decide) zi10 w782
theorem v121_41 (L : Nat) (xs : Nat → Int32) : zVal L xs 121 41 (.inl (i_al 0 42)) := zS_aload_n d121_41 rfl
theorem v121_42 (L : Nat) (xs : Nat → Int32) : zVal L xs 121 42 (.inl (i_gf 10 18 45)) := zS_getf d121_42 (zcl10) (by decide) zi10 w796
theorem v121_45 (L : Nat) (xs : Nat → Int32) : zVal L xs 121 45 (.inl (i_c (.int 192) 48)) := zS_sipush d121_45 (by decide)
theorem v121_48 (L : Nat) (xs : Nat → Int32) : zVal L xs 121 48 (.inl (i_il 1 49)) := zS_iload_n d121_48 rfl
theorem v121_49 (L : Nat) (xs : Nat → Int32) : zVal L xs 121 49 (.inl (i_bi (fun x y => x * y) 50)) := zS_imul d121_49
theorem v121_50 (L : Nat) (xs : Nat → Int32) : zVal L xs 121 50 (.inl (i_il 5 52)) := zS_iload d121_50
theorem v121_52 (L : Nat) (xs : Nat → Int32) : zVal L xs 121 52 (.inl (i_bi (fun x y => x + y) 53)) := zS_iadd d121_52
theorem v121_53 (L : Nat) (xs : Nat → Int32) : zVal L xs 121 53 (.inl (i_ga 0 54)) := zS_iald d121_53
theorem v121_54 (L : Nat) (xs : Nat → Int32) : zVal L xs 121 54 (.inl (i_c (.int 97) 56)) := zS_bipush d121_54 (by decide)
theorem v121_56 (L : Nat) (xs : Nat → Int32) : zVal L xs 121 56 (.inl (i_bi (fun x y => x - y) 57)) := zS_isub d121_56
theorem v121_57 (L : Nat) (xs : Nat → Int32) : zVal L xs 121 57 (.inl (i_ga 0 58)) := zS_iald d121_57
theorem v121_58 (L : Nat) (xs : Nat → Int32) : zVal L xs 121 58 (.inl (i_bi (fun x y => x + y) 59)) := zS_iadd d121_58
theorem v121_59 (L : Nat) (xs : Nat → Int32) : zVal L xs 121 59 (.inl (i_is 4 61)) := zS_istore d121_59
theorem v121_61 (L : Nat) (xs : Nat → Int32) : zVal L xs 121 61 (.inl (i_in 5 1 64)) := zS_iinc d121_61 (by decide)
theorem v121_64 (L : Nat) (xs : Nat → Int32) : zVal L xs 121 64 (.inl (i_go 29)) := zS_goto d121_64 (by decide)
theorem v121_67 (L : Nat) (xs : Nat → Int32) : zVal L xs 121 67 (.inl (i_il 4 69)) := zS_iload d121_67
theorem v121_69 (L : Nat) (xs : Nat → Int32) : zVal L xs 121 69 (.inr (.inr 1)) := zr_1 d121_69 rfl
theorem vt121 (L : Nat) (xs : Nat → Int32) : zAll (fun x => zVal L xs 121 x.1 x.2) (tb121) := ⟨v121_0 L xs, v121_1 L xs, v121_2 L xs, v121_3 L xs, v121_4 L xs, v121_5 L xs, v121_8 L xs, v121_9 L xs, v121_10 L xs, v121_11 L xs, v121_12 L xs, v121_15 L xs, v121_18 L xs, v121_19 L xs, v121_22 L xs, v121_23 L xs, v121_24 L xs, v121_26 L xs, v121_27 L xs, v121_29 L xs, v121_31 L xs, v121_32 L xs, v121_35 L xs, v121_37 L xs, v121_38 L xs, v121_41 L xs, v121_42 L xs, v121_45 L xs, v121_48 L xs, v121_49 L xs, v121_50 L xs, v121_52 L xs, v121_53 L xs, v121_54 L xs, v121_56 L xs, v121_57 L xs, v121_58 L xs, v121_59 L xs, v121_61 L xs, v121_64 L xs, v121_67 L xs, v121_69 L xs, trivial⟩
theorem d122_0 : decode (mB 122) 0 = .ok (.aload_n 0, 1) := by decide +kernel
theorem d122_1 : decode (mB 122) 1 = .ok (.getfield 120, 3) := by decide +kernel
theorem d122_4 : decode (mB 122) 4 = .ok (.iload_n 1, 1) := by decide +kernel
theorem d122_5 : decode (mB 122) 5 = .ok (.isub, 1) := by decide +kernel
theorem d122_6 : decode (mB 122) 6 = .ok (.aload_n 0, 1) := by decide +kernel
theorem d122_7 : decode (mB 122) 7 = .ok (.getfield 84, 3) := by decide +kernel
theorem d122_10 : decode (mB 122) 10 = .ok (.iload_n 2, 1) := by decide +kernel
theorem d122_11 : decode (mB 122) 11 = .ok (.baload, 1) := by decide +kernel
theorem d122_12 : decode (mB 122) 12 = .ok (.ifCond .eq 7, 3) := by decide +kernel
theorem d122_15 : decode (mB 122) 15 = .ok (.iconst 0, 1) := by decide +kernel
theorem d122_16 : decode (mB 122) 16 = .ok (.goto 4, 3) := by decide +kernel
theorem d122_19 : decode (mB 122) 19 = .ok (.iconst 2, 1) := by decide +kernel
theorem d122_20 : decode (mB 122) 20 = .ok (.isub, 1) := by decide +kernel
theorem d122_21 : decode (mB 122) 21 = .ok (.istore 4, 2) := by decide +kernel
theorem d122_23 : decode (mB 122) 23 = .ok (.iload 4, 2) := by decide +kernel
theorem d122_25 : decode (mB 122) 25 = .ok (.ifCond .ge 5, 3) := by decide +kernel
theorem d122_28 : decode (mB 122) 28 = .ok (.iconst (-1), 1) := by decide +kernel
theorem d122_29 : decode (mB 122) 29 = .ok (.ireturn, 1) := by decide +kernel
theorem d122_30 : decode (mB 122) 30 = .ok (.iload_n 2, 1) := by decide +kernel
theorem d122_31 : decode (mB 122) 31 = .ok (.iload_n 3, 1) := by decide +kernel
theorem d122_32 : decode (mB 122) 32 = .ok (.if_icmp .ne 7, 3) := by decide +kernel
theorem d122_35 : decode (mB 122) 35 = .ok (.iconst 0, 1) := by decide +kernel
theorem d122_36 : decode (mB 122) 36 = .ok (.goto 24, 3) := by decide +kernel
theorem d122_39 : decode (mB 122) 39 = .ok (.iload 4, 2) := by decide +kernel
theorem d122_41 : decode (mB 122) 41 = .ok (.iload 4, 2) := by decide +kernel
theorem d122_43 : decode (mB 122) 43 = .ok (.imul, 1) := by decide +kernel
theorem d122_44 : decode (mB 122) 44 = .ok (.aload_n 0, 1) := by decide +kernel
theorem d122_45 : decode (mB 122) 45 = .ok (.getfield 84, 3) := by decide +kernel
theorem d122_48 : decode (mB 122) 48 = .ok (.iload_n 2, 1) := by decide +kernel
theorem d122_49 : decode (mB 122) 49 = .ok (.baload, 1) := by decide +kernel
theorem d122_50 : decode (mB 122) 50 = .ok (.ifCond .eq 7, 3) := by decide +kernel
theorem d122_53 : decode (mB 122) 53 = .ok (.iconst 0, 1) := by decide +kernel
theorem d122_54 : decode (mB 122) 54 = .ok (.goto 5, 3) := by decide +kernel
theorem d122_57 : decode (mB 122) 57 = .ok (.bipush 100, 2) := by decide +kernel
theorem d122_59 : decode (mB 122) 59 = .ok (.iadd, 1) := by decide +kernel
theorem d122_60 : decode (mB 122) 60 = .ok (.ireturn, 1) := by decide +kernel
theorem v122_0 (L : Nat) (xs : Nat → Int32) : zVal L xs 122 0 (.inl (i_al 0 1)) := zS_aload_n d122_0 rfl
theorem v122_1 (L : Nat) (xs : Nat → Int32) : zVal L xs 122 1 (.inl (i_gf 10 2 4)) := zS_getf d122_1 (zcl10) (by decide) zi10 w780
theorem v122_4 (L : Nat) (xs : Nat → Int32) : zVal L xs 122 4 (.inl (i_il 1 5)) := zS_iload_n d122_4 rfl
theorem v122_5 (L : Nat) (xs : Nat → Int32) : zVal L xs 122 5 (.inl (i_bi (fun x y => x - y) 6)) := zS_isub d122_5
theorem v122_6 (L : Nat) (xs : Nat → Int32) : zVal L xs 122 6 (.inl (i_al 0 7)) := zS_aload_n d122_6 rfl
theorem v122_7 (L : Nat) (xs : Nat → Int32) : zVal L xs 122 7 (.inl (i_gf 10 32 10)) := zS_getf d122_7 (zcl10) (by decide) zi10 w810
theorem v122_10 (L : Nat) (xs : Nat → Int32) : zVal L xs 122 10 (.inl (i_il 2 11)) := zS_iload_n d122_10 rfl
theorem v122_11 (L : Nat) (xs : Nat → Int32) : zVal L xs 122 11 (.inl (i_ga 3 12)) := zS_zald d122_11
theorem v122_12 (L : Nat) (xs : Nat → Int32) : zVal L xs 122 12 (.inl (i_f1 (fun x => decide (x = 0)) 19 15)) := zS_if_eq d122_12 (by decide)
theorem v122_15 (L : Nat) (xs : Nat → Int32) : zVal L xs 122 15 (.inl (i_c (.int 0) 16)) := zS_iconst d122_15 (by decide)
theorem v122_16 (L : Nat) (xs : Nat → Int32) : zVal L xs 122 16 (.inl (i_go 20)) := zS_goto d122_16 (by decide)
theorem v122_19 (L : Nat) (xs : Nat → Int32) : zVal L xs 122 19 (.inl (i_c (.int 2) 20)) := zS_iconst d122_19 (by decide)
theorem v122_20 (L : Nat) (xs : Nat → Int32) : zVal L xs 122 20 (.inl (i_k [false, true, false, false, true] (i_bi (fun x y => x - y) 21))) := zS_k (zS_isub d122_20)
theorem v122_21 (L : Nat) (xs : Nat → Int32) : zVal L xs 122 21 (.inl (i_is 4 23)) := zS_istore d122_21
theorem v122_23 (L : Nat) (xs : Nat → Int32) : zVal L xs 122 23 (.inl (i_il 4 25)) := zS_iload d122_23
theorem v122_25 (L : Nat) (xs : Nat → Int32) : zVal L xs 122 25 (.inl (i_f1 (fun x => decide (0 ≤ x)) 30 28)) := zS_if_ge d122_25 (by decide)
theorem v122_28 (L : Nat) (xs : Nat → Int32) : zVal L xs 122 28 (.inl (i_c (.int (-1)) 29)) := zS_iconst d122_28 (by decide)
theorem v122_29 (L : Nat) (xs : Nat → Int32) : zVal L xs 122 29 (.inr (.inr 1)) := zr_1 d122_29 rfl
theorem v122_30 (L : Nat) (xs : Nat → Int32) : zVal L xs 122 30 (.inl (i_il 2 31)) := zS_iload_n d122_30 rfl
theorem v122_31 (L : Nat) (xs : Nat → Int32) : zVal L xs 122 31 (.inl (i_il 3 32)) := zS_iload_n d122_31 rfl
theorem v122_32 (L : Nat) (xs : Nat → Int32) : zVal L xs 122 32 (.inl (i_f2 (fun x y => decide (¬ x = y)) 39 35)) := zS_icmp_ne d122_32 (by decide)
theorem v122_35 (L : Nat) (xs : Nat → Int32) : zVal L xs 122 35 (.inl (i_c (.int 0) 36)) := zS_iconst d122_35 (by decide)
theorem v122_36 (L : Nat) (xs : Nat → Int32) : zVal L xs 122 36 (.inl (i_go 60)) := zS_goto d122_36 (by decide)
theorem v122_39 (L : Nat) (xs : Nat → Int32) : zVal L xs 122 39 (.inl (i_il 4 41)) := zS_iload d122_39
theorem v122_41 (L : Nat) (xs : Nat → Int32) : zVal L xs 122 41 (.inl (i_il 4 43)) := zS_iload d122_41
theorem v122_43 (L : Nat) (xs : Nat → Int32) : zVal L xs 122 43 (.inl (i_bi (fun x y => x * y) 44)) := zS_imul d122_43
theorem v122_44 (L : Nat) (xs : Nat → Int32) : zVal L xs 122 44 (.inl (i_al 0 45)) := zS_aload_n d122_44 rfl
theorem v122_45 (L : Nat) (xs : Nat → Int32) : zVal L xs 122 45 (.inl (i_gf 10 32 48)) := zS_getf d122_45 (zcl10) (by decide) zi10 w810
theorem v122_48 (L : Nat) (xs : Nat → Int32) : zVal L xs 122 48 (.inl (i_il 2 49)) := zS_iload_n d122_48 rfl
theorem v122_49 (L : Nat) (xs : Nat → Int32) : zVal L xs 122 49 (.inl (i_ga 3 50)) := zS_zald d122_49
theorem v122_50 (L : Nat) (xs : Nat → Int32) : zVal L xs 122 50 (.inl (i_f1 (fun x => decide (x = 0)) 57 53)) := zS_if_eq d122_50 (by decide)
theorem v122_53 (L : Nat) (xs : Nat → Int32) : zVal L xs 122 53 (.inl (i_c (.int 0) 54)) := zS_iconst d122_53 (by decide)
theorem v122_54 (L : Nat) (xs : Nat → Int32) : zVal L xs 122 54 (.inl (i_go 59)) := zS_goto d122_54 (by decide)
theorem v122_57 (L : Nat) (xs : Nat → Int32) : zVal L xs 122 57 (.inl (i_c (.int 100) 59)) := zS_bipush d122_57 (by decide)
theorem v122_59 (L : Nat) (xs : Nat → Int32) : zVal L xs 122 59 (.inl (i_k [true, true, true, true, true] (i_bi (fun x y => x + y) 60))) := zS_k (zS_iadd d122_59)
theorem v122_60 (L : Nat) (xs : Nat → Int32) : zVal L xs 122 60 (.inr (.inr 1)) := zr_1 d122_60 rfl
theorem vt122 (L : Nat) (xs : Nat → Int32) : zAll (fun x => zVal L xs 122 x.1 x.2) (tb122) := ⟨v122_0 L xs, v122_1 L xs, v122_4 L xs, v122_5 L xs, v122_6 L xs, v122_7 L xs, v122_10 L xs, v122_11 L xs, v122_12 L xs, v122_15 L xs, v122_16 L xs, v122_19 L xs, v122_20 L xs, v122_21 L xs, v122_23 L xs, v122_25 L xs, v122_28 L xs, v122_29 L xs, v122_30 L xs, v122_31 L xs, v122_32 L xs, v122_35 L xs, v122_36 L xs, v122_39 L xs, v122_41 L xs, v122_43 L xs, v122_44 L xs, v122_45 L xs, v122_48 L xs, v122_49 L xs, v122_50 L xs, v122_53 L xs, v122_54 L xs, v122_57 L xs, v122_59 L xs, v122_60 L xs, trivial⟩
theorem d123_0 : decode (mB 123) 0 = .ok (.aload_n 0, 1) := by decide +kernel
theorem d123_1 : decode (mB 123) 1 = .ok (.getfield 55, 3) := by decide +kernel
theorem d123_4 : decode (mB 123) 4 = .ok (.iload_n 1, 1) := by decide +kernel
theorem d123_5 : decode (mB 123) 5 = .ok (.iaload, 1) := by decide +kernel
theorem d123_6 : decode (mB 123) 6 = .ok (.istore_n 2, 1) := by decide +kernel
theorem d123_7 : decode (mB 123) 7 = .ok (.aload_n 0, 1) := by decide +kernel
theorem d123_8 : decode (mB 123) 8 = .ok (.iload_n 1, 1) := by decide +kernel
theorem d123_9 : decode (mB 123) 9 = .ok (.invokevirtual 206, 3) := by decide +kernel
theorem d123_12 : decode (mB 123) 12 = .ok (.aload_n 0, 1) := by decide +kernel
theorem d123_13 : decode (mB 123) 13 = .ok (.getfield 87, 3) := by decide +kernel
theorem d123_16 : decode (mB 123) 16 = .ok (.iload_n 2, 1) := by decide +kernel
theorem d123_17 : decode (mB 123) 17 = .ok (.iconst 0, 1) := by decide +kernel
theorem d123_18 : decode (mB 123) 18 = .ok (.iastore, 1) := by decide +kernel
theorem d123_19 : decode (mB 123) 19 = .ok (.iload_n 2, 1) := by decide +kernel
theorem d123_20 : decode (mB 123) 20 = .ok (.iconst 1, 1) := by decide +kernel
theorem d123_21 : decode (mB 123) 21 = .ok (.isub, 1) := by decide +kernel
theorem d123_22 : decode (mB 123) 22 = .ok (.istore_n 3, 1) := by decide +kernel
theorem d123_23 : decode (mB 123) 23 = .ok (.iload_n 3, 1) := by decide +kernel
theorem d123_24 : decode (mB 123) 24 = .ok (.ifCond .lt 204, 3) := by decide +kernel
theorem d123_27 : decode (mB 123) 27 = .ok (.aload_n 0, 1) := by decide +kernel
theorem d123_28 : decode (mB 123) 28 = .ok (.getfield 87, 3) := by decide +kernel
theorem d123_31 : decode (mB 123) 31 = .ok (.iload_n 3, 1) := by decide +kernel
theorem d123_32 : decode (mB 123) 32 = .ok (.iconst (-1), 1) := by decide +kernel
theorem d123_33 : decode (mB 123) 33 = .ok (.iastore, 1) := by decide +kernel
theorem d123_34 : decode (mB 123) 34 = .ok (.iconst 0, 1) := by decide +kernel
theorem d123_35 : decode (mB 123) 35 = .ok (.istore 4, 2) := by decide +kernel
theorem d123_37 : decode (mB 123) 37 = .ok (.iload_n 3, 1) := by decide +kernel
theorem d123_38 : decode (mB 123) 38 = .ok (.iconst 1, 1) := by decide +kernel
theorem d123_39 : decode (mB 123) 39 = .ok (.iadd, 1) := by decide +kernel
theorem d123_40 : decode (mB 123) 40 = .ok (.istore 5, 2) := by decide +kernel
theorem d123_42 : decode (mB 123) 42 = .ok (.iload 5, 2) := by decide +kernel
theorem d123_44 : decode (mB 123) 44 = .ok (.iload_n 2, 1) := by decide +kernel
theorem d123_45 : decode (mB 123) 45 = .ok (.if_icmp .gt 177, 3) := by decide +kernel
theorem d123_48 : decode (mB 123) 48 = .ok (.iload 4, 2) := by decide +kernel
theorem d123_50 : decode (mB 123) 50 = .ok (.aload_n 0, 1) := by decide +kernel
theorem d123_51 : decode (mB 123) 51 = .ok (.getfield 120, 3) := by decide +kernel
theorem d123_54 : decode (mB 123) 54 = .ok (.if_icmp .gt 168, 3) := by decide +kernel
theorem d123_57 : decode (mB 123) 57 = .ok (.iload_n 3, 1) := by decide +kernel
theorem d123_58 : decode (mB 123) 58 = .ok (.ifCond .eq 12, 3) := by decide +kernel
theorem d123_61 : decode (mB 123) 61 = .ok (.aload_n 0, 1) := by decide +kernel
theorem d123_62 : decode (mB 123) 62 = .ok (.getfield 80, 3) := by decide +kernel
theorem d123_65 : decode (mB 123) 65 = .ok (.iload_n 3, 1) := by decide +kernel
theorem d123_66 : decode (mB 123) 66 = .ok (.baload, 1) := by decide +kernel
theorem d123_67 : decode (mB 123) 67 = .ok (.ifCond .eq 155, 3) := by decide +kernel
theorem d123_70 : decode (mB 123) 70 = .ok (.iload 4, 2) := by decide +kernel
theorem d123_72 : decode (mB 123) 72 = .ok (.aload_n 0, 1) := by decide +kernel
theorem d123_73 : decode (mB 123) 73 = .ok (.getfield 13, 3) := by decide +kernel
theorem d123_76 : decode (mB 123) 76 = .ok (.aload_n 0, 1) := by decide +kernel
theorem d123_77 : decode (mB 123) 77 = .ok (.getfield 46, 3) := by decide +kernel
theorem d123_80 : decode (mB 123) 80 = .ok (.sipush 192, 3) := by decide +kernel
theorem d123_83 : decode (mB 123) 83 = .ok (.iload_n 1, 1) := by decide +kernel
theorem d123_84 : decode (mB 123) 84 = .ok (.imul, 1) := by decide +kernel
theorem d123_85 : decode (mB 123) 85 = .ok (.iload 5, 2) := by decide +kernel
theorem d123_87 : decode (mB 123) 87 = .ok (.iadd, 1) := by decide +kernel
theorem d123_88 : decode (mB 123) 88 = .ok (.iconst 1, 1) := by decide +kernel
theorem d123_89 : decode (mB 123) 89 = .ok (.isub, 1) := by decide +kernel
theorem d123_90 : decode (mB 123) 90 = .ok (.iaload, 1) := by decide +kernel
theorem d123_91 : decode (mB 123) 91 = .ok (.bipush 97, 2) := by decide +kernel
theorem d123_93 : decode (mB 123) 93 = .ok (.isub, 1) := by decide +kernel
theorem d123_94 : decode (mB 123) 94 = .ok (.iaload, 1) := by decide +kernel
theorem d123_95 : decode (mB 123) 95 = .ok (.iadd, 1) := by decide +kernel
theorem d123_96 : decode (mB 123) 96 = .ok (.iload 5, 2) := by decide +kernel
theorem d123_98 : decode (mB 123) 98 = .ok (.iload_n 3, 1) := by decide +kernel
theorem d123_99 : decode (mB 123) 99 = .ok (.iconst 1, 1) := by decide +kernel
theorem d123_100 : decode (mB 123) 100 = .ok (.iadd, 1) := by decide +kernel
theorem d123_101 : decode (mB 123) 101 = .ok (.if_icmp .le 19, 3) := by decide +kernel
theorem d123_104 : decode (mB 123) 104 = .ok (.aload_n 0, 1) := by decide +kernel
theorem d123_105 : decode (mB 123) 105 = .ok (.getfield 84, 3) := by decide +kernel
theorem d123_108 : decode (mB 123) 108 = .ok (.iload 5, 2) := by decide +kernel
theorem d123_110 : decode (mB 123) 110 = .ok (.iconst 1, 1) := by decide +kernel
theorem d123_111 : decode (mB 123) 111 = .ok (.isub, 1) := by decide +kernel
theorem d123_112 : decode (mB 123) 112 = .ok (.baload, 1) := by decide +kernel
theorem d123_113 : decode (mB 123) 113 = .ok (.ifCond .eq 7, 3) := by decide +kernel
theorem d123_116 : decode (mB 123) 116 = .ok (.iconst 3, 1) := by decide +kernel
theorem d123_117 : decode (mB 123) 117 = .ok (.goto 4, 3) := by decide +kernel
theorem d123_120 : decode (mB 123) 120 = .ok (.iconst 0, 1) := by decide +kernel
theorem d123_121 : decode (mB 123) 121 = .ok (.iadd, 1) := by decide +kernel
theorem d123_122 : decode (mB 123) 122 = .ok (.istore 4, 2) := by decide +kernel
theorem d123_124 : decode (mB 123) 124 = .ok (.aload_n 0, 1) := by decide +kernel
theorem d123_125 : decode (mB 123) 125 = .ok (.getfield 80, 3) := by decide +kernel
theorem d123_128 : decode (mB 123) 128 = .ok (.iload 5, 2) := by decide +kernel
theorem d123_130 : decode (mB 123) 130 = .ok (.baload, 1) := by decide +kernel
theorem d123_131 : decode (mB 123) 131 = .ok (.ifCond .eq 25, 3) := by decide +kernel
theorem d123_134 : decode (mB 123) 134 = .ok (.aload_n 0, 1) := by decide +kernel
theorem d123_135 : decode (mB 123) 135 = .ok (.getfield 87, 3) := by decide +kernel
theorem d123_138 : decode (mB 123) 138 = .ok (.iload 5, 2) := by decide +kernel
theorem d123_140 : decode (mB 123) 140 = .ok (.iaload, 1) := by decide +kernel
theorem d123_141 : decode (mB 123) 141 = .ok (.ifCond .lt 15, 3) := by decide +kernel
theorem d123_144 : decode (mB 123) 144 = .ok (.aload_n 0, 1) := by decide +kernel
theorem d123_145 : decode (mB 123) 145 = .ok (.iload 4, 2) := by decide +kernel
theorem d123_147 : decode (mB 123) 147 = .ok (.iload 5, 2) := by decide +kernel
theorem d123_149 : decode (mB 123) 149 = .ok (.iload_n 2, 1) := by decide +kernel
theorem d123_150 : decode (mB 123) 150 = .ok (.invokevirtual 209, 3) := by decide +kernel
theorem d123_153 : decode (mB 123) 153 = .ok (.goto 4, 3) := by decide +kernel
theorem d123_156 : decode (mB 123) 156 = .ok (.iconst (-1), 1) := by decide +kernel
theorem d123_157 : decode (mB 123) 157 = .ok (.istore 6, 2) := by decide +kernel
theorem d123_159 : decode (mB 123) 159 = .ok (.iload 6, 2) := by decide +kernel
theorem d123_161 : decode (mB 123) 161 = .ok (.ifCond .lt 55, 3) := by decide +kernel
theorem d123_164 : decode (mB 123) 164 = .ok (.aload_n 0, 1) := by decide +kernel
theorem d123_165 : decode (mB 123) 165 = .ok (.getfield 87, 3) := by decide +kernel
theorem d123_168 : decode (mB 123) 168 = .ok (.iload_n 3, 1) := by decide +kernel
theorem d123_169 : decode (mB 123) 169 = .ok (.iaload, 1) := by decide +kernel
theorem d123_170 : decode (mB 123) 170 = .ok (.ifCond .lt 22, 3) := by decide +kernel
theorem d123_173 : decode (mB 123) 173 = .ok (.iload 6, 2) := by decide +kernel
theorem d123_175 : decode (mB 123) 175 = .ok (.aload_n 0, 1) := by decide +kernel
theorem d123_176 : decode (mB 123) 176 = .ok (.getfield 87, 3) := by decide +kernel
theorem d123_179 : decode (mB 123) 179 = .ok (.iload 5, 2) := by decide +kernel
theorem d123_181 : decode (mB 123) 181 = .ok (.iaload, 1) := by decide +kernel
theorem d123_182 : decode (mB 123) 182 = .ok (.iadd, 1) := by decide +kernel
theorem d123_183 : decode (mB 123) 183 = .ok (.aload_n 0, 1) := by decide +kernel
theorem d123_184 : decode (mB 123) 184 = .ok (.getfield 87, 3) := by decide +kernel
theorem d123_187 : decode (mB 123) 187 = .ok (.iload_n 3, 1) := by decide +kernel
theorem d123_188 : decode (mB 123) 188 = .ok (.iaload, 1) := by decide +kernel
theorem d123_189 : decode (mB 123) 189 = .ok (.if_icmp .gt 27, 3) := by decide +kernel
theorem d123_192 : decode (mB 123) 192 = .ok (.aload_n 0, 1) := by decide +kernel
theorem d123_193 : decode (mB 123) 193 = .ok (.getfield 87, 3) := by decide +kernel
theorem d123_196 : decode (mB 123) 196 = .ok (.iload_n 3, 1) := by decide +kernel
theorem d123_197 : decode (mB 123) 197 = .ok (.iload 6, 2) := by decide +kernel
theorem d123_199 : decode (mB 123) 199 = .ok (.aload_n 0, 1) := by decide +kernel
theorem d123_200 : decode (mB 123) 200 = .ok (.getfield 87, 3) := by decide +kernel
theorem d123_203 : decode (mB 123) 203 = .ok (.iload 5, 2) := by decide +kernel
theorem d123_205 : decode (mB 123) 205 = .ok (.iaload, 1) := by decide +kernel
theorem d123_206 : decode (mB 123) 206 = .ok (.iadd, 1) := by decide +kernel
theorem d123_207 : decode (mB 123) 207 = .ok (.iastore, 1) := by decide +kernel
theorem d123_208 : decode (mB 123) 208 = .ok (.aload_n 0, 1) := by decide +kernel
theorem d123_209 : decode (mB 123) 209 = .ok (.getfield 90, 3) := by decide +kernel
theorem d123_212 : decode (mB 123) 212 = .ok (.iload_n 3, 1) := by decide +kernel
theorem d123_213 : decode (mB 123) 213 = .ok (.iload 5, 2) := by decide +kernel
theorem d123_215 : decode (mB 123) 215 = .ok (.iastore, 1) := by decide +kernel
theorem d123_216 : decode (mB 123) 216 = .ok (.iinc 5 1, 3) := by decide +kernel
theorem d123_219 : decode (mB 123) 219 = .ok (.goto (-177), 3) := by decide +kernel
theorem d123_222 : decode (mB 123) 222 = .ok (.iinc 3 (-1), 3) := by decide +kernel
theorem d123_225 : decode (mB 123) 225 = .ok (.goto (-202), 3) := by decide +kernel
theorem d123_228 : decode (mB 123) 228 = .ok (.return_, 1) := by decide +kernel
theorem v123_0 (L : Nat) (xs : Nat → Int32) : zVal L xs 123 0 (.inl (i_al 0 1)) := zS_aload_n d123_0 rfl
theorem v123_1 (L : Nat) (xs : Nat → Int32) : zVal L xs 123 1 (.inl (i_gf 10 21 4)) := zS_getf d123_1 (zcl10) (by decide) zi10 w799
theorem v123_4 (L : Nat) (xs : Nat → Int32) : zVal L xs 123 4 (.inl (i_il 1 5)) := zS_iload_n d123_4 rfl
theorem v123_5 (L : Nat) (xs : Nat → Int32) : zVal L xs 123 5 (.inl (i_ga 0 6)) := zS_iald d123_5
theorem v123_6 (L : Nat) (xs : Nat → Int32) : zVal L xs 123 6 (.inl (i_is 2 7)) := zS_istore_n d123_6 rfl
theorem v123_7 (L : Nat) (xs : Nat → Int32) : zVal L xs 123 7 (.inl (i_al 0 8)) := zS_aload_n d123_7 rfl
theorem v123_8 (L : Nat) (xs : Nat → Int32) : zVal L xs 123 8 (.inl (i_il 1 9)) := zS_iload_n d123_8 rfl
theorem v123_9 (L : Nat) (xs : Nat → Int32) : zVal L xs 123 9 (.inr (.inl (118, 2, 11))) := ⟨by decide +kernel, by decide +kernel, zc_virt d123_9 zcl10 w1023 w1020 w1022 w50 w85 ⟨by decide +kernel, by decide +kernel, by decide +kernel⟩ (by decide) (by decide)⟩
theorem v123_12 (L : Nat) (xs : Nat → Int32) : zVal L xs 123 12 (.inl (i_al 0 13)) := zS_aload_n d123_12 rfl
theorem v123_13 (L : Nat) (xs : Nat → Int32) : zVal L xs 123 13 (.inl (i_gf 10 33 16)) := zS_getf d123_13 (zcl10) (by decide) zi10 w811
theorem v123_16 (L : Nat) (xs : Nat → Int32) : zVal L xs 123 16 (.inl (i_il 2 17)) := zS_iload_n d123_16 rfl
theorem v123_17 (L : Nat) (xs : Nat → Int32) : zVal L xs 123 17 (.inl (i_c (.int 0) 18)) := zS_iconst d123_17 (by decide)
theorem v123_18 (L : Nat) (xs : Nat → Int32) : zVal L xs 123 18 (.inl (i_pa 0 (fun x => x) 19)) := zS_iast d123_18
theorem v123_19 (L : Nat) (xs : Nat → Int32) : zVal L xs 123 19 (.inl (i_il 2 20)) := zS_iload_n d123_19 rfl
theorem v123_20 (L : Nat) (xs : Nat → Int32) : zVal L xs 123 20 (.inl (i_c (.int 1) 21)) := zS_iconst d123_20 (by decide)
theorem v123_21 (L : Nat) (xs : Nat → Int32) : zVal L xs 123 21 (.inl (i_bi (fun x y => x - y) 22)) := zS_isub d123_21
theorem v123_22 (L : Nat) (xs : Nat → Int32) : zVal L xs 123 22 (.inl (i_is 3 23)) := zS_istore_n d123_22 rfl
theorem v123_23 (L : Nat) (xs : Nat → Int32) : zVal L xs 123 23 (.inl (i_k [false, false, false, false, true, true, true] (i_il 3 24))) := zS_k (zS_iload_n d123_23 rfl)
theorem v123_24 (L : Nat) (xs : Nat → Int32) : zVal L xs 123 24 (.inl (i_f1 (fun x => decide (x < 0)) 228 27)) := zS_if_lt d123_24 (by decide)
theorem v123_27 (L : Nat) (xs : Nat → Int32) : zVal L xs 123 27 (.inl (i_al 0 28)) := zS_aload_n d123_27 rfl
theorem v123_28 (L : Nat) (xs : Nat → Int32) : zVal L xs 123 28 (.inl (i_gf 10 33 31)) := zS_getf d123_28 (zcl10) (by decide) zi10 w811
theorem v123_31 (L : Nat) (xs : Nat → Int32) : zVal L xs 123 31 (.inl (i_il 3 32)) := zS_iload_n d123_31 rfl
theorem v123_32 (L : Nat) (xs : Nat → Int32) : zVal L xs 123 32 (.inl (i_c (.int (-1)) 33)) := zS_iconst d123_32 (by decide)
theorem v123_33 (L : Nat) (xs : Nat → Int32) : zVal L xs 123 33 (.inl (i_pa 0 (fun x => x) 34)) := zS_iast d123_33
theorem v123_34 (L : Nat) (xs : Nat → Int32) : zVal L xs 123 34 (.inl (i_c (.int 0) 35)) := zS_iconst d123_34 (by decide)
theorem v123_35 (L : Nat) (xs : Nat → Int32) : zVal L xs 123 35 (.inl (i_is 4 37)) := zS_istore d123_35
theorem v123_37 (L : Nat) (xs : Nat → Int32) : zVal L xs 123 37 (.inl (i_il 3 38)) := zS_iload_n d123_37 rfl
theorem v123_38 (L : Nat) (xs : Nat → Int32) : zVal L xs 123 38 (.inl (i_c (.int 1) 39)) := zS_iconst d123_38 (by decide)
theorem v123_39 (L : Nat) (xs : Nat → Int32) : zVal L xs 123 39 (.inl (i_bi (fun x y => x + y) 40)) := zS_iadd d123_39
theorem v123_40 (L : Nat) (xs : Nat → Int32) : zVal L xs 123 40 (.inl (i_is 5 42)) := zS_istore d123_40
theorem v123_42 (L : Nat) (xs : Nat → Int32) : zVal L xs 123 42 (.inl (i_k [false, false, false, false, false, false, true] (i_il 5 44))) := zS_k (zS_iload d123_42)
theorem v123_44 (L : Nat) (xs : Nat → Int32) : zVal L xs 123 44 (.inl (i_il 2 45)) := zS_iload_n d123_44 rfl
theorem v123_45 (L : Nat) (xs : Nat → Int32) : zVal L xs 123 45 (.inl (i_f2 (fun x y => decide (y < x)) 222 48)) := zS_icmp_gt d123_45 (by decide)
theorem v123_48 (L : Nat) (xs : Nat → Int32) : zVal L xs 123 48 (.inl (i_il 4 50)) := zS_iload d123_48
theorem v123_50 (L : Nat) (xs : Nat → Int32) : zVal L xs 123 50 (.inl (i_al 0 51)) := zS_aload_n d123_50 rfl
theorem v123_51 (L : Nat) (xs : Nat → Int32) : zVal L xs 123 51 (.inl (i_gf 10 2 54)) := zS_getf d123_51 (zcl10) (by decide) zi10 w780
theorem v123_54 (L : Nat) (xs : Nat → Int32) : zVal L xs 123 54 (.inl (i_f2 (fun x y => decide (y < x)) 222 57)) := zS_icmp_gt d123_54 (by decide)
theorem v123_57 (L : Nat) (xs : Nat → Int32) : zVal L xs 123 57 (.inl (i_il 3 58)) := zS_iload_n d123_57 rfl
theorem v123_58 (L : Nat) (xs : Nat → Int32) : zVal L xs 123 58 (.inl (i_f1 (fun x => decide (x = 0)) 70 61)) := zS_if_eq d123_58 (by decide)
theorem v123_61 (L : Nat) (xs : Nat → Int32) : zVal L xs 123 61 (.inl (i_al 0 62)) := zS_aload_n d123_61 rfl
theorem v123_62 (L : Nat) (xs : Nat → Int32) : zVal L xs 123 62 (.inl (i_gf 10 31 65)) := zS_getf d123_62 (zcl10) (by decide) zi10 w809
theorem v123_65 (L : Nat) (xs : Nat → Int32) : zVal L xs 123 65 (.inl (i_il 3 66)) := zS_iload_n d123_65 rfl
theorem v123_66 (L : Nat) (xs : Nat → Int32) : zVal L xs 123 66 (.inl (i_ga 3 67)) := zS_zald d123_66
theorem v123_67 (L : Nat) (xs : Nat → Int32) : zVal L xs 123 67 (.inl (i_f1 (fun x => decide (x = 0)) 222 70)) := zS_if_eq d123_67 (by decide)
theorem v123_70 (L : Nat) (xs : Nat → Int32) : zVal L xs 123 70 (.inl (i_k [false, false, false, false, false, false, true] (i_il 4 72))) := zS_k (zS_iload d123_70)
theorem v123_72 (L : Nat) (xs : Nat → Int32) : zVal L xs 123 72 (.inl (i_al 0 73)) := zS_aload_n d123_72 rfl
theorem v123_73 (L : Nat) (xs : Nat → Int32) : zVal L xs 123 73 (.inl (i_gf 10 4 76)) := zS_getf d123_73 (zcl10) (by decide) zi10 w782
theorem v123_76 (L : Nat) (xs : Nat → Int32) : zVal L xs 123 76 (.inl (i_al 0 77)) := zS_aload_n d123_76 rfl
theorem v123_77 (L : Nat) (xs : Nat → Int32) : zVal L xs 123 77 (.inl (i_gf 10 18 80)) := zS_getf d123_77 (zcl10) (by decide) zi10 w796
theorem v123_80 (L : Nat) (xs : Nat → Int32) : zVal L xs 123 80 (.inl (i_c (.int 192) 83)) := zS_sipush d123_80 (by decide)
theorem v123_83 (L : Nat) (xs : Nat → Int32) : zVal L xs 123 83 (.inl (i_il 1 84)) := zS_iload_n d123_83 rfl
theorem v123_84 (L : Nat) (xs : Nat → Int32) : zVal L xs 123 84 (.inl (i_bi (fun x y => x * y) 85)) := zS_imul d123_84
theorem v123_85 (L : Nat) (xs : Nat → Int32) : zVal L xs 123 85 (.inl (i_il 5 87)) := zS_iload d123_85
theorem v123_87 (L : Nat) (xs : Nat → Int32) : zVal L xs 123 87 (.inl (i_bi (fun x y => x + y) 88)) := zS_iadd d123_87
theorem v123_88 (L : Nat) (xs : Nat → Int32) : zVal L xs 123 88 (.inl (i_c (.int 1) 89)) := zS_iconst d123_88 (by decide)
theorem v123_89 (L : Nat) (xs : Nat → Int32) : zVal L xs 123 89 (.inl (i_bi (fun x y => x - y) 90)) := zS_isub d123_89
theorem v123_90 (L : Nat) (xs : Nat → Int32) : zVal L xs 123 90 (.inl (i_ga 0 91)) := zS_iald d123_90
theorem v123_91 (L : Nat) (xs : Nat → Int32) : zVal L xs 123 91 (.inl (i_c (.int 97) 93)) := zS_bipush d123_91 (by decide)
theorem v123_93 (L : Nat) (xs : Nat → Int32) : zVal L xs 123 93 (.inl (i_bi (fun x y => x - y) 94)) := zS_isub d123_93
theorem v123_94 (L : Nat) (xs : Nat → Int32) : zVal L xs 123 94 (.inl (i_ga 0 95)) := zS_iald d123_94
theorem v123_95 (L : Nat) (xs : Nat → Int32) : zVal L xs 123 95 (.inl (i_bi (fun x y => x + y) 96)) := zS_iadd d123_95
theorem v123_96 (L : Nat) (xs : Nat → Int32) : zVal L xs 123 96 (.inl (i_il 5 98)) := zS_iload d123_96
theorem v123_98 (L : Nat) (xs : Nat → Int32) : zVal L xs 123 98 (.inl (i_il 3 99)) := zS_iload_n d123_98 rfl
theorem v123_99 (L : Nat) (xs : Nat → Int32) : zVal L xs 123 99 (.inl (i_c (.int 1) 100)) := zS_iconst d123_99 (by decide)
theorem v123_100 (L : Nat) (xs : Nat → Int32) : zVal L xs 123 100 (.inl (i_bi (fun x y => x + y) 101)) := zS_iadd d123_100
theorem v123_101 (L : Nat) (xs : Nat → Int32) : zVal L xs 123 101 (.inl (i_f2 (fun x y => decide (x ≤ y)) 120 104)) := zS_icmp_le d123_101 (by decide)
theorem v123_104 (L : Nat) (xs : Nat → Int32) : zVal L xs 123 104 (.inl (i_al 0 105)) := zS_aload_n d123_104 rfl
theorem v123_105 (L : Nat) (xs : Nat → Int32) : zVal L xs 123 105 (.inl (i_gf 10 32 108)) := zS_getf d123_105 (zcl10) (by decide) zi10 w810
theorem v123_108 (L : Nat) (xs : Nat → Int32) : zVal L xs 123 108 (.inl (i_il 5 110)) := zS_iload d123_108
theorem v123_110 (L : Nat) (xs : Nat → Int32) : zVal L xs 123 110 (.inl (i_c (.int 1) 111)) := zS_iconst d123_110 (by decide)
theorem v123_111 (L : Nat) (xs : Nat → Int32) : zVal L xs 123 111 (.inl (i_bi (fun x y => x - y) 112)) := zS_isub d123_111
theorem v123_112 (L : Nat) (xs : Nat → Int32) : zVal L xs 123 112 (.inl (i_ga 3 113)) := zS_zald d123_112
theorem v123_113 (L : Nat) (xs : Nat → Int32) : zVal L xs 123 113 (.inl (i_f1 (fun x => decide (x = 0)) 120 116)) := zS_if_eq d123_113 (by decide)
theorem v123_116 (L : Nat) (xs : Nat → Int32) : zVal L xs 123 116 (.inl (i_c (.int 3) 117)) := zS_iconst d123_116 (by decide)
theorem v123_117 (L : Nat) (xs : Nat → Int32) : zVal L xs 123 117 (.inl (i_go 121)) := zS_goto d123_117 (by decide)
theorem v123_120 (L : Nat) (xs : Nat → Int32) : zVal L xs 123 120 (.inl (i_k [false, false, false, false, true, false, true] (i_c (.int 0) 121))) := zS_k (zS_iconst d123_120 (by decide))
theorem v123_121 (L : Nat) (xs : Nat → Int32) : zVal L xs 123 121 (.inl (i_k [false, false, false, false, true, false, true] (i_bi (fun x y => x + y) 122))) := zS_k (zS_iadd d123_121)
theorem v123_122 (L : Nat) (xs : Nat → Int32) : zVal L xs 123 122 (.inl (i_is 4 124)) := zS_istore d123_122
theorem v123_124 (L : Nat) (xs : Nat → Int32) : zVal L xs 123 124 (.inl (i_al 0 125)) := zS_aload_n d123_124 rfl
theorem v123_125 (L : Nat) (xs : Nat → Int32) : zVal L xs 123 125 (.inl (i_gf 10 31 128)) := zS_getf d123_125 (zcl10) (by decide) zi10 w809
theorem v123_128 (L : Nat) (xs : Nat → Int32) : zVal L xs 123 128 (.inl (i_il 5 130)) := zS_iload d123_128
theorem v123_130 (L : Nat) (xs : Nat → Int32) : zVal L xs 123 130 (.inl (i_ga 3 131)) := zS_zald d123_130
theorem v123_131 (L : Nat) (xs : Nat → Int32) : zVal L xs 123 131 (.inl (i_f1 (fun x => decide (x = 0)) 156 134)) := zS_if_eq d123_131 (by decide)
theorem v123_134 (L : Nat) (xs : Nat → Int32) : zVal L xs 123 134 (.inl (i_al 0 135)) := zS_aload_n d123_134 rfl
theorem v123_135 (L : Nat) (xs : Nat → Int32) : zVal L xs 123 135 (.inl (i_gf 10 33 138)) := zS_getf d123_135 (zcl10) (by decide) zi10 w811
theorem v123_138 (L : Nat) (xs : Nat → Int32) : zVal L xs 123 138 (.inl (i_il 5 140)) := zS_iload d123_138
theorem v123_140 (L : Nat) (xs : Nat → Int32) : zVal L xs 123 140 (.inl (i_ga 0 141)) := zS_iald d123_140
theorem v123_141 (L : Nat) (xs : Nat → Int32) : zVal L xs 123 141 (.inl (i_f1 (fun x => decide (x < 0)) 156 144)) := zS_if_lt d123_141 (by decide)
theorem v123_144 (L : Nat) (xs : Nat → Int32) : zVal L xs 123 144 (.inl (i_al 0 145)) := zS_aload_n d123_144 rfl
theorem v123_145 (L : Nat) (xs : Nat → Int32) : zVal L xs 123 145 (.inl (i_il 4 147)) := zS_iload d123_145
theorem v123_147 (L : Nat) (xs : Nat → Int32) : zVal L xs 123 147 (.inl (i_il 5 149)) := zS_iload d123_147
theorem v123_149 (L : Nat) (xs : Nat → Int32) : zVal L xs 123 149 (.inl (i_il 2 150)) := zS_iload_n d123_149 rfl
theorem v123_150 (L : Nat) (xs : Nat → Int32) : zVal L xs 123 150 (.inr (.inl (122, 4, 11))) := ⟨by decide +kernel, by decide +kernel, zc_virt d123_150 zcl10 w1027 w1024 w1026 w51 w85 ⟨by decide +kernel, by decide +kernel, by decide +kernel⟩ (by decide) (by decide)⟩
theorem v123_153 (L : Nat) (xs : Nat → Int32) : zVal L xs 123 153 (.inl (i_go 157)) := zS_goto d123_153 (by decide)
theorem v123_156 (L : Nat) (xs : Nat → Int32) : zVal L xs 123 156 (.inl (i_k [false, false, false, false, false, false, true] (i_c (.int (-1)) 157))) := zS_k (zS_iconst d123_156 (by decide))
theorem v123_157 (L : Nat) (xs : Nat → Int32) : zVal L xs 123 157 (.inl (i_k [false, false, false, false, false, false, true] (i_is 6 159))) := zS_k (zS_istore d123_157)
theorem v123_159 (L : Nat) (xs : Nat → Int32) : zVal L xs 123 159 (.inl (i_il 6 161)) := zS_iload d123_159
theorem v123_161 (L : Nat) (xs : Nat → Int32) : zVal L xs 123 161 (.inl (i_f1 (fun x => decide (x < 0)) 216 164)) := zS_if_lt d123_161 (by decide)
theorem v123_164 (L : Nat) (xs : Nat → Int32) : zVal L xs 123 164 (.inl (i_al 0 165)) := zS_aload_n d123_164 rfl
theorem v123_165 (L : Nat) (xs : Nat → Int32) : zVal L xs 123 165 (.inl (i_gf 10 33 168)) := zS_getf d123_165 (zcl10) (by decide) zi10 w811
theorem v123_168 (L : Nat) (xs : Nat → Int32) : zVal L xs 123 168 (.inl (i_il 3 169)) := zS_iload_n d123_168 rfl
theorem v123_169 (L : Nat) (xs : Nat → Int32) : zVal L xs 123 169 (.inl (i_ga 0 170)) := zS_iald d123_169
theorem v123_170 (L : Nat) (xs : Nat → Int32) : zVal L xs 123 170 (.inl (i_f1 (fun x => decide (x < 0)) 192 173)) := zS_if_lt d123_170 (by decide)
theorem v123_173 (L : Nat) (xs : Nat → Int32) : zVal L xs 123 173 (.inl (i_il 6 175)) := zS_iload d123_173
theorem v123_175 (L : Nat) (xs : Nat → Int32) : zVal L xs 123 175 (.inl (i_al 0 176)) := zS_aload_n d123_175 rfl
theorem v123_176 (L : Nat) (xs : Nat → Int32) : zVal L xs 123 176 (.inl (i_gf 10 33 179)) := zS_getf d123_176 (zcl10) (by decide) zi10 w811
theorem v123_179 (L : Nat) (xs : Nat → Int32) : zVal L xs 123 179 (.inl (i_il 5 181)) := zS_iload d123_179
theorem v123_181 (L : Nat) (xs : Nat → Int32) : zVal L xs 123 181 (.inl (i_ga 0 182)) := zS_iald d123_181
theorem v123_182 (L : Nat) (xs : Nat → Int32) : zVal L xs 123 182 (.inl (i_bi (fun x y => x + y) 183)) := zS_iadd d123_182
theorem v123_183 (L : Nat) (xs : Nat → Int32) : zVal L xs 123 183 (.inl (i_al 0 184)) := zS_aload_n d123_183 rfl
theorem v123_184 (L : Nat) (xs : Nat → Int32) : zVal L xs 123 184 (.inl (i_gf 10 33 187)) := zS_getf d123_184 (zcl10) (by decide) zi10 w811
theorem v123_187 (L : Nat) (xs : Nat → Int32) : zVal L xs 123 187 (.inl (i_il 3 188)) := zS_iload_n d123_187 rfl
theorem v123_188 (L : Nat) (xs : Nat → Int32) : zVal L xs 123 188 (.inl (i_ga 0 189)) := zS_iald d123_188
theorem v123_189 (L : Nat) (xs : Nat → Int32) : zVal L xs 123 189 (.inl (i_f2 (fun x y => decide (y < x)) 216 192)) := zS_icmp_gt d123_189 (by decide)
theorem v123_192 (L : Nat) (xs : Nat → Int32) : zVal L xs 123 192 (.inl (i_k [false, false, false, false, false, false, false] (i_al 0 193))) := zS_k (zS_aload_n d123_192 rfl)
theorem v123_193 (L : Nat) (xs : Nat → Int32) : zVal L xs 123 193 (.inl (i_gf 10 33 196)) := zS_getf d123_193 (zcl10) (by decide) zi10 w811
theorem v123_196 (L : Nat) (xs : Nat → Int32) : zVal L xs 123 196 (.inl (i_il 3 197)) := zS_iload_n d123_196 rfl
theorem v123_197 (L : Nat) (xs : Nat → Int32) : zVal L xs 123 197 (.inl (i_il 6 199)) := zS_iload d123_197
theorem v123_199 (L : Nat) (xs : Nat → Int32) : zVal L xs 123 199 (.inl (i_al 0 200)) := zS_aload_n d123_199 rfl
theorem v123_200 (L : Nat) (xs : Nat → Int32) : zVal L xs 123 200 (.inl (i_gf 10 33 203)) := zS_getf d123_200 (zcl10) (by decide) zi10 w811
theorem v123_203 (L : Nat) (xs : Nat → Int32) : zVal L xs 123 203 (.inl (i_il 5 205)) := zS_iload d123_203
theorem v123_205 (L : Nat) (xs : Nat → Int32) : zVal L xs 123 205 (.inl (i_ga 0 206)) := zS_iald d123_205
theorem v123_206 (L : Nat) (xs : Nat → Int32) : zVal L xs 123 206 (.inl (i_bi (fun x y => x + y) 207)) := zS_iadd d123_206
theorem v123_207 (L : Nat) (xs : Nat → Int32) : zVal L xs 123 207 (.inl (i_pa 0 (fun x => x) 208)) := zS_iast d123_207
theorem v123_208 (L : Nat) (xs : Nat → Int32) : zVal L xs 123 208 (.inl (i_al 0 209)) := zS_aload_n d123_208 rfl
theorem v123_209 (L : Nat) (xs : Nat → Int32) : zVal L xs 123 209 (.inl (i_gf 10 34 212)) := zS_getf d123_209 (zcl10) (by decide) zi10 w812
theorem v123_212 (L : Nat) (xs : Nat → Int32) : zVal L xs 123 212 (.inl (i_il 3 213)) := zS_iload_n d123_212 rfl
theorem v123_213 (L : Nat) (xs : Nat → Int32) : zVal L xs 123 213 (.inl (i_il 5 215)) := zS_iload d123_213
theorem v123_215 (L : Nat) (xs : Nat → Int32) : zVal L xs 123 215 (.inl (i_pa 0 (fun x => x) 216)) := zS_iast d123_215
theorem v123_216 (L : Nat) (xs : Nat → Int32) : zVal L xs 123 216 (.inl (i_k [false, false, false, false, false, false, true] (i_in 5 1 219))) := zS_k (zS_iinc d123_216 (by decide))
theorem v123_219 (L : Nat) (xs : Nat → Int32) : zVal L xs 123 219 (.inl (i_go 42)) := zS_goto d123_219 (by decide)
theorem v123_222 (L : Nat) (xs : Nat → Int32) : zVal L xs 123 222 (.inl (i_k [false, false, false, false, true, true, true] (i_in 3 (-1) 225))) := zS_k (zS_iinc d123_222 (by decide))
theorem v123_225 (L : Nat) (xs : Nat → Int32) : zVal L xs 123 225 (.inl (i_go 23)) := zS_goto d123_225 (by decide)
theorem v123_228 (L : Nat) (xs : Nat → Int32) : zVal L xs 123 228 (.inr (.inr 0)) := zr_0 d123_228 rfl
theorem vt123 (L : Nat) (xs : Nat → Int32) : zAll (fun x => zVal L xs 123 x.1 x.2) (tb123) := ⟨v123_0 L xs, v123_1 L xs, v123_4 L xs, v123_5 L xs, v123_6 L xs, v123_7 L xs, v123_8 L xs, v123_9 L xs, v123_12 L xs, v123_13 L xs, v123_16 L xs, v123_17 L xs, v123_18 L xs, v123_19 L xs, v123_20 L xs, v123_21 L xs, v123_22 L xs, v123_23 L xs, v123_24 L xs, v123_27 L xs, v123_28 L xs, v123_31 L xs, v123_32 L xs, v123_33 L xs, v123_34 L xs, v123_35 L xs, v123_37 L xs, v123_38 L xs, v123_39 L xs, v123_40 L xs, v123_42 L xs, v123_44 L xs, v123_45 L xs, v123_48 L xs, v123_50 L xs, v123_51 L xs, v123_54 L xs, v123_57 L xs, v123_58 L xs, v123_61 L xs, v123_62 L xs, v123_65 L xs, v123_66 L xs, v123_67 L xs, v123_70 L xs, v123_72 L xs, v123_73 L xs, v123_76 L xs, v123_77 L xs, v123_80 L xs, v123_83 L xs, v123_84 L xs, v123_85 L xs, v123_87 L xs, v123_88 L xs, v123_89 L xs, v123_90 L xs, v123_91 L xs, v123_93 L xs, v123_94 L xs, v123_95 L xs, v123_96 L xs, v123_98 L xs, v123_99 L xs, v123_100 L xs, v123_101 L xs, v123_104 L xs, v123_105 L xs, v123_108 L xs, v123_110 L xs, v123_111 L xs, v123_112 L xs, v123_113 L xs, v123_116 L xs, v123_117 L xs, v123_120 L xs, v123_121 L xs, v123_122 L xs, v123_124 L xs, v123_125 L xs, v123_128 L xs, v123_130 L xs, v123_131 L xs, v123_134 L xs, v123_135 L xs, v123_138 L xs, v123_140 L xs, v123_141 L xs, v123_144 L xs, v123_145 L xs, v123_147 L xs, v123_149 L xs, v123_150 L xs, v123_153 L xs, v123_156 L xs, v123_157 L xs, v123_159 L xs, v123_161 L xs, v123_164 L xs, v123_165 L xs, v123_168 L xs, v123_169 L xs, v123_170 L xs, v123_173 L xs, v123_175 L xs, v123_176 L xs, v123_179 L xs, v123_181 L xs, v123_182 L xs, v123_183 L xs, v123_184 L xs, v123_187 L xs, v123_188 L xs, v123_189 L xs, v123_192 L xs, v123_193 L xs, v123_196 L xs, v123_197 L xs, v123_199 L xs, v123_200 L xs, v123_203 L xs, v123_205 L xs, v123_206 L xs, v123_207 L xs, v123_208 L xs, v123_209 L xs, v123_212 L xs, v123_213 L xs, v123_215 L xs, v123_216 L xs, v123_219 L xs, v123_222 L xs, v123_225 L xs, v123_228 L xs, trivial⟩
theorem d124_0 : decode (mB 124) 0 = .ok (.aload_n 0, 1) := by decide +kernel
theorem d124_1 : decode (mB 124) 1 = .ok (.getfield 65, 3) := by decide +kernel
theorem d124_4 : decode (mB 124) 4 = .ok (.iload_n 1, 1) := by decide +kernel
theorem d124_5 : decode (mB 124) 5 = .ok (.iconst 0, 1) := by decide +kernel
theorem d124_6 : decode (mB 124) 6 = .ok (.iastore, 1) := by decide +kernel
theorem d124_7 : decode (mB 124) 7 = .ok (.aload_n 0, 1) := by decide +kernel
theorem d124_8 : decode (mB 124) 8 = .ok (.getfield 62, 3) := by decide +kernel
theorem d124_11 : decode (mB 124) 11 = .ok (.iload_n 1, 1) := by decide +kernel
theorem d124_12 : decode (mB 124) 12 = .ok (.iconst 0, 1) := by decide +kernel
theorem d124_13 : decode (mB 124) 13 = .ok (.iastore, 1) := by decide +kernel
theorem d124_14 : decode (mB 124) 14 = .ok (.iconst 0, 1) := by decide +kernel
theorem d124_15 : decode (mB 124) 15 = .ok (.istore_n 2, 1) := by decide +kernel
theorem d124_16 : decode (mB 124) 16 = .ok (.iload_n 2, 1) := by decide +kernel
theorem d124_17 : decode (mB 124) 17 = .ok (.aload_n 0, 1) := by decide +kernel
theorem d124_18 : decode (mB 124) 18 = .ok (.getfield 43, 3) := by decide +kernel
theorem d124_21 : decode (mB 124) 21 = .ok (.iload_n 1, 1) := by decide +kernel
theorem d124_22 : decode (mB 124) 22 = .ok (.iaload, 1) := by decide +kernel
theorem d124_23 : decode (mB 124) 23 = .ok (.if_icmp .ge 166, 3) := by decide +kernel
theorem d124_26 : decode (mB 124) 26 = .ok (.iconst 4, 1) := by decide +kernel
theorem d124_27 : decode (mB 124) 27 = .ok (.iload_n 1, 1) := by decide +kernel
theorem d124_28 : decode (mB 124) 28 = .ok (.imul, 1) := by decide +kernel
theorem d124_29 : decode (mB 124) 29 = .ok (.iload_n 2, 1) := by decide +kernel
theorem d124_30 : decode (mB 124) 30 = .ok (.iadd, 1) := by decide +kernel
theorem d124_31 : decode (mB 124) 31 = .ok (.istore_n 3, 1) := by decide +kernel
theorem d124_32 : decode (mB 124) 32 = .ok (.aload_n 0, 1) := by decide +kernel
theorem d124_33 : decode (mB 124) 33 = .ok (.iload_n 3, 1) := by decide +kernel
theorem d124_34 : decode (mB 124) 34 = .ok (.invokevirtual 212, 3) := by decide +kernel
theorem d124_37 : decode (mB 124) 37 = .ok (.aload_n 0, 1) := by decide +kernel
theorem d124_38 : decode (mB 124) 38 = .ok (.getfield 77, 3) := by decide +kernel
theorem d124_41 : decode (mB 124) 41 = .ok (.iload_n 3, 1) := by decide +kernel
theorem d124_42 : decode (mB 124) 42 = .ok (.aload_n 0, 1) := by decide +kernel
theorem d124_43 : decode (mB 124) 43 = .ok (.getfield 87, 3) := by decide +kernel
theorem d124_46 : decode (mB 124) 46 = .ok (.iconst 0, 1) := by decide +kernel
theorem d124_47 : decode (mB 124) 47 = .ok (.iaload, 1) := by decide +kernel
theorem d124_48 : decode (mB 124) 48 = .ok (.iastore, 1) := by decide +kernel
theorem d124_49 : decode (mB 124) 49 = .ok (.aload_n 0, 1) := by decide +kernel
theorem d124_50 : decode (mB 124) 50 = .ok (.getfield 62, 3) := by decide +kernel
theorem d124_53 : decode (mB 124) 53 = .ok (.iload_n 1, 1) := by decide +kernel
theorem d124_54 : decode (mB 124) 54 = .ok (.aload_n 0, 1) := by decide +kernel
theorem d124_55 : decode (mB 124) 55 = .ok (.getfield 87, 3) := by decide +kernel
theorem d124_58 : decode (mB 124) 58 = .ok (.iconst 0, 1) := by decide +kernel
theorem d124_59 : decode (mB 124) 59 = .ok (.iaload, 1) := by decide +kernel
theorem d124_60 : decode (mB 124) 60 = .ok (.ifCond .ge 7, 3) := by decide +kernel
theorem d124_63 : decode (mB 124) 63 = .ok (.iconst 1, 1) := by decide +kernel
theorem d124_64 : decode (mB 124) 64 = .ok (.goto 9, 3) := by decide +kernel
theorem d124_67 : decode (mB 124) 67 = .ok (.aload_n 0, 1) := by decide +kernel
theorem d124_68 : decode (mB 124) 68 = .ok (.getfield 62, 3) := by decide +kernel
theorem d124_71 : decode (mB 124) 71 = .ok (.iload_n 1, 1) := by decide +kernel
theorem d124_72 : decode (mB 124) 72 = .ok (.iaload, 1) := by decide +kernel
theorem d124_73 : decode (mB 124) 73 = .ok (.iastore, 1) := by decide +kernel
theorem d124_74 : decode (mB 124) 74 = .ok (.aload_n 0, 1) := by decide +kernel
theorem d124_75 : decode (mB 124) 75 = .ok (.getfield 87, 3) := by decide +kernel
theorem d124_78 : decode (mB 124) 78 = .ok (.iconst 0, 1) := by decide +kernel
theorem d124_79 : decode (mB 124) 79 = .ok (.iaload, 1) := by decide +kernel
theorem d124_80 : decode (mB 124) 80 = .ok (.ifCond .ge 12, 3) := by decide +kernel
theorem d124_83 : decode (mB 124) 83 = .ok (.aload_n 0, 1) := by decide +kernel
theorem d124_84 : decode (mB 124) 84 = .ok (.getfield 55, 3) := by decide +kernel
theorem d124_87 : decode (mB 124) 87 = .ok (.iload_n 3, 1) := by decide +kernel
theorem d124_88 : decode (mB 124) 88 = .ok (.iaload, 1) := by decide +kernel
theorem d124_89 : decode (mB 124) 89 = .ok (.goto 4, 3) := by decide +kernel
theorem d124_92 : decode (mB 124) 92 = .ok (.iconst 0, 1) := by decide +kernel
theorem d124_93 : decode (mB 124) 93 = .ok (.istore 4, 2) := by decide +kernel
theorem d124_95 : decode (mB 124) 95 = .ok (.iload 4, 2) := by decide +kernel
theorem d124_97 : decode (mB 124) 97 = .ok (.aload_n 0, 1) := by decide +kernel
theorem d124_98 : decode (mB 124) 98 = .ok (.getfield 55, 3) := by decide +kernel
theorem d124_101 : decode (mB 124) 101 = .ok (.iload_n 3, 1) := by decide +kernel
theorem d124_102 : decode (mB 124) 102 = .ok (.iaload, 1) := by decide +kernel
theorem d124_103 : decode (mB 124) 103 = .ok (.if_icmp .ge 80, 3) := by decide +kernel
theorem d124_106 : decode (mB 124) 106 = .ok (.aload_n 0, 1) := by decide +kernel
theorem d124_107 : decode (mB 124) 107 = .ok (.getfield 65, 3) := by decide +kernel
theorem d124_110 : decode (mB 124) 110 = .ok (.iload_n 1, 1) := by decide +kernel
theorem d124_111 : decode (mB 124) 111 = .ok (.iaload, 1) := by decide +kernel
theorem d124_112 : decode (mB 124) 112 = .ok (.bipush 41, 2) := by decide +kernel
theorem d124_114 : decode (mB 124) 114 = .ok (.if_icmp .ge 47, 3) := by decide +kernel
theorem d124_117 : decode (mB 124) 117 = .ok (.bipush 41, 2) := by decide +kernel
theorem d124_119 : decode (mB 124) 119 = .ok (.iload_n 1, 1) := by decide +kernel
theorem d124_120 : decode (mB 124) 120 = .ok (.imul, 1) := by decide +kernel
theorem d124_121 : decode (mB 124) 121 = .ok (.aload_n 0, 1) := by decide +kernel
theorem d124_122 : decode (mB 124) 122 = .ok (.getfield 65, 3) := by decide +kernel
theorem d124_125 : decode (mB 124) 125 = .ok (.iload_n 1, 1) := by decide +kernel
theorem d124_126 : decode (mB 124) 126 = .ok (.iaload, 1) := by decide +kernel
theorem d124_127 : decode (mB 124) 127 = .ok (.iadd, 1) := by decide +kernel
theorem d124_128 : decode (mB 124) 128 = .ok (.istore 5, 2) := by decide +kernel
theorem d124_130 : decode (mB 124) 130 = .ok (.aload_n 0, 1) := by decide +kernel
theorem d124_131 : decode (mB 124) 131 = .ok (.getfield 68, 3) := by decide +kernel
theorem d124_134 : decode (mB 124) 134 = .ok (.iload 5, 2) := by decide +kernel
theorem d124_136 : decode (mB 124) 136 = .ok (.iload_n 3, 1) := by decide +kernel
theorem d124_137 : decode (mB 124) 137 = .ok (.iastore, 1) := by decide +kernel
theorem d124_138 : decode (mB 124) 138 = .ok (.aload_n 0, 1) := by decide +kernel
theorem d124_139 : decode (mB 124) 139 = .ok (.getfield 71, 3) := by decide +kernel
theorem d124_142 : decode (mB 124) 142 = .ok (.iload 5, 2) := by decide +kernel
theorem d124_144 : decode (mB 124) 144 = .ok (.iload 4, 2) := by decide +kernel
theorem d124_146 : decode (mB 124) 146 = .ok (.iastore, 1) := by decide +kernel
theorem d124_147 : decode (mB 124) 147 = .ok (.aload_n 0, 1) := by decide +kernel
theorem d124_148 : decode (mB 124) 148 = .ok (.getfield 74, 3) := by decide +kernel
theorem d124_151 : decode (mB 124) 151 = .ok (.iload 5, 2) := by decide +kernel
theorem d124_153 : decode (mB 124) 153 = .ok (.aload_n 0, 1) := by decide +kernel
theorem d124_154 : decode (mB 124) 154 = .ok (.getfield 90, 3) := by decide +kernel
theorem d124_157 : decode (mB 124) 157 = .ok (.iload 4, 2) := by decide +kernel
theorem d124_159 : decode (mB 124) 159 = .ok (.iaload, 1) := by decide +kernel
theorem d124_160 : decode (mB 124) 160 = .ok (.iastore, 1) := by decide +kernel
theorem d124_161 : decode (mB 124) 161 = .ok (.aload_n 0, 1) := by decide +kernel
theorem d124_162 : decode (mB 124) 162 = .ok (.getfield 65, 3) := by decide +kernel
theorem d124_165 : decode (mB 124) 165 = .ok (.iload_n 1, 1) := by decide +kernel
theorem d124_166 : decode (mB 124) 166 = .ok (.dup2, 1) := by decide +kernel
theorem d124_167 : decode (mB 124) 167 = .ok (.iaload, 1) := by decide +kernel
theorem d124_168 : decode (mB 124) 168 = .ok (.iconst 1, 1) := by decide +kernel
theorem d124_169 : decode (mB 124) 169 = .ok (.iadd, 1) := by decide +kernel
theorem d124_170 : decode (mB 124) 170 = .ok (.iastore, 1) := by decide +kernel
theorem d124_171 : decode (mB 124) 171 = .ok (.aload_n 0, 1) := by decide +kernel
theorem d124_172 : decode (mB 124) 172 = .ok (.getfield 90, 3) := by decide +kernel
theorem d124_175 : decode (mB 124) 175 = .ok (.iload 4, 2) := by decide +kernel
theorem d124_177 : decode (mB 124) 177 = .ok (.iaload, 1) := by decide +kernel
theorem d124_178 : decode (mB 124) 178 = .ok (.istore 4, 2) := by decide +kernel
theorem d124_180 : decode (mB 124) 180 = .ok (.goto (-85), 3) := by decide +kernel
theorem d124_183 : decode (mB 124) 183 = .ok (.iinc 2 1, 3) := by decide +kernel
theorem d124_186 : decode (mB 124) 186 = .ok (.goto (-170), 3) := by decide +kernel
theorem d124_189 : decode (mB 124) 189 = .ok (.aload_n 0, 1) := by decide +kernel
theorem d124_190 : decode (mB 124) 190 = .ok (.getfield 65, 3) := by decide +kernel
theorem d124_193 : decode (mB 124) 193 = .ok (.iload_n 1, 1) := by decide +kernel
theorem d124_194 : decode (mB 124) 194 = .ok (.aload_n 0, 1) := by decide +kernel
theorem d124_195 : decode (mB 124) 195 = .ok (.getfield 62, 3) := by decide +kernel
theorem d124_198 : decode (mB 124) 198 = .ok (.iload_n 1, 1) := by decide +kernel
theorem d124_199 : decode (mB 124) 199 = .ok (.iaload, 1) := by decide +kernel
theorem d124_200 : decode (mB 124) 200 = .ok (.iconst 1, 1) := by decide +kernel
theorem d124_201 : decode (mB 124) 201 = .ok (.if_icmp .ne 7, 3) := by decide +kernel
theorem d124_204 : decode (mB 124) 204 = .ok (.iconst 0, 1) := by decide +kernel
theorem d124_205 : decode (mB 124) 205 = .ok (.goto 9, 3) := by decide +kernel
theorem d124_208 : decode (mB 124) 208 = .ok (.aload_n 0, 1) := by decide +kernel
theorem d124_209 : decode (mB 124) 209 = .ok (.getfield 65, 3) := by decide +kernel
theorem d124_212 : decode (mB 124) 212 = .ok (.iload_n 1, 1) := by decide +kernel
theorem d124_213 : decode (mB 124) 213 = .ok (.iaload, 1) := by decide +kernel
theorem d124_214 : decode (mB 124) 214 = .ok (.iastore, 1) := by decide +kernel
theorem d124_215 : decode (mB 124) 215 = .ok (.aload_n 0, 1) := by decide +kernel
theorem d124_216 : decode (mB 124) 216 = .ok (.getfield 62, 3) := by decide +kernel
theorem d124_219 : decode (mB 124) 219 = .ok (.iload_n 1, 1) := by decide +kernel
theorem d124_220 : decode (mB 124) 220 = .ok (.aload_n 0, 1) := by decide +kernel
theorem d124_221 : decode (mB 124) 221 = .ok (.getfield 62, 3) := by decide +kernel
theorem d124_224 : decode (mB 124) 224 = .ok (.iload_n 1, 1) := by decide +kernel
theorem d124_225 : decode (mB 124) 225 = .ok (.iaload, 1) := by decide +kernel
theorem d124_226 : decode (mB 124) 226 = .ok (.iconst 1, 1) := by decide +kernel
theorem d124_227 : decode (mB 124) 227 = .ok (.if_icmp .ne 7, 3) := by decide +kernel
theorem d124_230 : decode (mB 124) 230 = .ok (.iconst 1, 1) := by decide +kernel
theorem d124_231 : decode (mB 124) 231 = .ok (.goto 28, 3) := by decide +kernel
theorem d124_234 : decode (mB 124) 234 = .ok (.aload_n 0, 1) := by decide +kernel
theorem d124_235 : decode (mB 124) 235 = .ok (.getfield 65, 3) := by decide +kernel
theorem d124_238 : decode (mB 124) 238 = .ok (.iload_n 1, 1) := by decide +kernel
theorem d124_239 : decode (mB 124) 239 = .ok (.iaload, 1) := by decide +kernel
theorem d124_240 : decode (mB 124) 240 = .ok (.ifCond .eq 14, 3) := by decide +kernel
theorem d124_243 : decode (mB 124) 243 = .ok (.aload_n 0, 1) := by decide +kernel
theorem d124_244 : decode (mB 124) 244 = .ok (.getfield 65, 3) := by decide +kernel
theorem d124_247 : decode (mB 124) 247 = .ok (.iload_n 1, 1) := by decide +kernel
theorem d124_248 : decode (mB 124) 248 = .ok (.iaload, 1) := by decide +kernel
theorem d124_249 : decode (mB 124) 249 = .ok (.bipush 40, 2) := by decide +kernel
theorem d124_251 : decode (mB 124) 251 = .ok (.if_icmp .le 7, 3) := by decide +kernel
theorem d124_254 : decode (mB 124) 254 = .ok (.iconst 2, 1) := by decide +kernel
theorem d124_255 : decode (mB 124) 255 = .ok (.goto 4, 3) := by decide +kernel
theorem d124_258 : decode (mB 124) 258 = .ok (.iconst 0, 1) := by decide +kernel
theorem d124_259 : decode (mB 124) 259 = .ok (.iastore, 1) := by decide +kernel
theorem d124_260 : decode (mB 124) 260 = .ok (.return_, 1) := by decide +kernel
theorem v124_0 (L : Nat) (xs : Nat → Int32) : zVal L xs 124 0 (.inl (i_al 0 1)) := zS_aload_n d124_0 rfl
theorem v124_1 (L : Nat) (xs : Nat → Int32) : zVal L xs 124 1 (.inl (i_gf 10 26 4)) := zS_getf d124_1 (zcl10) (by decide) zi10 w804
theorem v124_4 (L : Nat) (xs : Nat → Int32) : zVal L xs 124 4 (.inl (i_il 1 5)) := zS_iload_n d124_4 rfl
theorem v124_5 (L : Nat) (xs : Nat → Int32) : zVal L xs 124 5 (.inl (i_c (.int 0) 6)) := zS_iconst d124_5 (by decide)
theorem v124_6 (L : Nat) (xs : Nat → Int32) : zVal L xs 124 6 (.inl (i_pa 0 (fun x => x) 7)) := zS_iast d124_6
theorem v124_7 (L : Nat) (xs : Nat → Int32) : zVal L xs 124 7 (.inl (i_al 0 8)) := zS_aload_n d124_7 rfl
theorem v124_8 (L : Nat) (xs : Nat → Int32) : zVal L xs 124 8 (.inl (i_gf 10 25 11)) := zS_getf d124_8 (zcl10) (by decide) zi10 w803
theorem v124_11 (L : Nat) (xs : Nat → Int32) : zVal L xs 124 11 (.inl (i_il 1 12)) := zS_iload_n d124_11 rfl
theorem v124_12 (L : Nat) (xs : Nat → Int32) : zVal L xs 124 12 (.inl (i_c (.int 0) 13)) := zS_iconst d124_12 (by decide)
theorem v124_13 (L : Nat) (xs : Nat → Int32) : zVal L xs 124 13 (.inl (i_pa 0 (fun x => x) 14)) := zS_iast d124_13
theorem v124_14 (L : Nat) (xs : Nat → Int32) : zVal L xs 124 14 (.inl (i_c (.int 0) 15)) := zS_iconst d124_14 (by decide)
theorem v124_15 (L : Nat) (xs : Nat → Int32) : zVal L xs 124 15 (.inl (i_is 2 16)) := zS_istore_n d124_15 rfl
theorem v124_16 (L : Nat) (xs : Nat → Int32) : zVal L xs 124 16 (.inl (i_k [false, false, false, true, true, true] (i_il 2 17))) := zS_k (zS_iload_n d124_16 rfl)
theorem v124_17 (L : Nat) (xs : Nat → Int32) : zVal L xs 124 17 (.inl (i_al 0 18)) := zS_aload_n d124_17 rfl
theorem v124_18 (L : Nat) (xs : Nat → Int32) : zVal L xs 124 18 (.inl (i_gf 10 17 21)) := zS_getf d124_18 (zcl10) (by decide) zi10 w795
theorem v124_21 (L : Nat) (xs : Nat → Int32) : zVal L xs 124 21 (.inl (i_il 1 22)) := zS_iload_n d124_21 rfl
theorem v124_22 (L : Nat) (xs : Nat → Int32) : zVal L xs 124 22 (.inl (i_ga 0 23)) := zS_iald d124_22
theorem v124_23 (L : Nat) (xs : Nat → Int32) : zVal L xs 124 23 (.inl (i_f2 (fun x y => decide (y ≤ x)) 189 26)) := zS_icmp_ge d124_23 (by decide)
theorem v124_26 (L : Nat) (xs : Nat → Int32) : zVal L xs 124 26 (.inl (i_c (.int 4) 27)) := zS_iconst d124_26 (by decide)
theorem v124_27 (L : Nat) (xs : Nat → Int32) : zVal L xs 124 27 (.inl (i_il 1 28)) := zS_iload_n d124_27 rfl
theorem v124_28 (L : Nat) (xs : Nat → Int32) : zVal L xs 124 28 (.inl (i_bi (fun x y => x * y) 29)) := zS_imul d124_28
theorem v124_29 (L : Nat) (xs : Nat → Int32) : zVal L xs 124 29 (.inl (i_il 2 30)) := zS_iload_n d124_29 rfl
theorem v124_30 (L : Nat) (xs : Nat → Int32) : zVal L xs 124 30 (.inl (i_bi (fun x y => x + y) 31)) := zS_iadd d124_30
theorem v124_31 (L : Nat) (xs : Nat → Int32) : zVal L xs 124 31 (.inl (i_is 3 32)) := zS_istore_n d124_31 rfl
theorem v124_32 (L : Nat) (xs : Nat → Int32) : zVal L xs 124 32 (.inl (i_al 0 33)) := zS_aload_n d124_32 rfl
theorem v124_33 (L : Nat) (xs : Nat → Int32) : zVal L xs 124 33 (.inl (i_il 3 34)) := zS_iload_n d124_33 rfl
theorem v124_34 (L : Nat) (xs : Nat → Int32) : zVal L xs 124 34 (.inr (.inl (123, 2, 11))) := ⟨by decide +kernel, by decide +kernel, zc_virt d124_34 zcl10 w1019 w1016 w1018 w49 w85 ⟨by decide +kernel, by decide +kernel, by decide +kernel⟩ (by decide) (by decide)⟩
theorem v124_37 (L : Nat) (xs : Nat → Int32) : zVal L xs 124 37 (.inl (i_al 0 38)) := zS_aload_n d124_37 rfl
theorem v124_38 (L : Nat) (xs : Nat → Int32) : zVal L xs 124 38 (.inl (i_gf 10 30 41)) := zS_getf d124_38 (zcl10) (by decide) zi10 w808
theorem v124_41 (L : Nat) (xs : Nat → Int32) : zVal L xs 124 41 (.inl (i_il 3 42)) := zS_iload_n d124_41 rfl
theorem v124_42 (L : Nat) (xs : Nat → Int32) : zVal L xs 124 42 (.inl (i_al 0 43)) := zS_aload_n d124_42 rfl
theorem v124_43 (L : Nat) (xs : Nat → Int32) : zVal L xs 124 43 (.inl (i_gf 10 33 46)) := zS_getf d124_43 (zcl10) (by decide) zi10 w811
theorem v124_46 (L : Nat) (xs : Nat → Int32) : zVal L xs 124 46 (.inl (i_c (.int 0) 47)) := zS_iconst d124_46 (by decide)
theorem v124_47 (L : Nat) (xs : Nat → Int32) : zVal L xs 124 47 (.inl (i_ga 0 48)) := zS_iald d124_47
theorem v124_48 (L : Nat) (xs : Nat → Int32) : zVal L xs 124 48 (.inl (i_pa 0 (fun x => x) 49)) := zS_iast d124_48
theorem v124_49 (L : Nat) (xs : Nat → Int32) : zVal L xs 124 49 (.inl (i_al 0 50)) := zS_aload_n d124_49 rfl
theorem v124_50 (L : Nat) (xs : Nat → Int32) : zVal L xs 124 50 (.inl (i_gf 10 25 53)) := zS_getf d124_50 (zcl10) (by decide) zi10 w803
theorem v124_53 (L : Nat) (xs : Nat → Int32) : zVal L xs 124 53 (.inl (i_il 1 54)) := zS_iload_n d124_53 rfl
theorem v124_54 (L : Nat) (xs : Nat → Int32) : zVal L xs 124 54 (.inl (i_al 0 55)) := zS_aload_n d124_54 rfl
theorem v124_55 (L : Nat) (xs : Nat → Int32) : zVal L xs 124 55 (.inl (i_gf 10 33 58)) := zS_getf d124_55 (zcl10) (by decide) zi10 w811
theorem v124_58 (L : Nat) (xs : Nat → Int32) : zVal L xs 124 58 (.inl (i_c (.int 0) 59)) := zS_iconst d124_58 (by decide)
theorem v124_59 (L : Nat) (xs : Nat → Int32) : zVal L xs 124 59 (.inl (i_ga 0 60)) := zS_iald d124_59
theorem v124_60 (L : Nat) (xs : Nat → Int32) : zVal L xs 124 60 (.inl (i_f1 (fun x => decide (0 ≤ x)) 67 63)) := zS_if_ge d124_60 (by decide)
theorem v124_63 (L : Nat) (xs : Nat → Int32) : zVal L xs 124 63 (.inl (i_c (.int 1) 64)) := zS_iconst d124_63 (by decide)
theorem v124_64 (L : Nat) (xs : Nat → Int32) : zVal L xs 124 64 (.inl (i_go 73)) := zS_goto d124_64 (by decide)
theorem v124_67 (L : Nat) (xs : Nat → Int32) : zVal L xs 124 67 (.inl (i_al 0 68)) := zS_aload_n d124_67 rfl
theorem v124_68 (L : Nat) (xs : Nat → Int32) : zVal L xs 124 68 (.inl (i_gf 10 25 71)) := zS_getf d124_68 (zcl10) (by decide) zi10 w803
theorem v124_71 (L : Nat) (xs : Nat → Int32) : zVal L xs 124 71 (.inl (i_il 1 72)) := zS_iload_n d124_71 rfl
theorem v124_72 (L : Nat) (xs : Nat → Int32) : zVal L xs 124 72 (.inl (i_ga 0 73)) := zS_iald d124_72
theorem v124_73 (L : Nat) (xs : Nat → Int32) : zVal L xs 124 73 (.inl (i_k [false, false, false, false, true, true] (i_pa 0 (fun x => x) 74))) := zS_k (zS_iast d124_73)
theorem v124_74 (L : Nat) (xs : Nat → Int32) : zVal L xs 124 74 (.inl (i_al 0 75)) := zS_aload_n d124_74 rfl
theorem v124_75 (L : Nat) (xs : Nat → Int32) : zVal L xs 124 75 (.inl (i_gf 10 33 78)) := zS_getf d124_75 (zcl10) (by decide) zi10 w811
theorem v124_78 (L : Nat) (xs : Nat → Int32) : zVal L xs 124 78 (.inl (i_c (.int 0) 79)) := zS_iconst d124_78 (by decide)
theorem v124_79 (L : Nat) (xs : Nat → Int32) : zVal L xs 124 79 (.inl (i_ga 0 80)) := zS_iald d124_79
theorem v124_80 (L : Nat) (xs : Nat → Int32) : zVal L xs 124 80 (.inl (i_f1 (fun x => decide (0 ≤ x)) 92 83)) := zS_if_ge d124_80 (by decide)
theorem v124_83 (L : Nat) (xs : Nat → Int32) : zVal L xs 124 83 (.inl (i_al 0 84)) := zS_aload_n d124_83 rfl
theorem v124_84 (L : Nat) (xs : Nat → Int32) : zVal L xs 124 84 (.inl (i_gf 10 21 87)) := zS_getf d124_84 (zcl10) (by decide) zi10 w799
theorem v124_87 (L : Nat) (xs : Nat → Int32) : zVal L xs 124 87 (.inl (i_il 3 88)) := zS_iload_n d124_87 rfl
theorem v124_88 (L : Nat) (xs : Nat → Int32) : zVal L xs 124 88 (.inl (i_ga 0 89)) := zS_iald d124_88
theorem v124_89 (L : Nat) (xs : Nat → Int32) : zVal L xs 124 89 (.inl (i_go 93)) := zS_goto d124_89 (by decide)
theorem v124_92 (L : Nat) (xs : Nat → Int32) : zVal L xs 124 92 (.inl (i_c (.int 0) 93)) := zS_iconst d124_92 (by decide)
theorem v124_93 (L : Nat) (xs : Nat → Int32) : zVal L xs 124 93 (.inl (i_k [false, false, false, false, true, true] (i_is 4 95))) := zS_k (zS_istore d124_93)
theorem v124_95 (L : Nat) (xs : Nat → Int32) : zVal L xs 124 95 (.inl (i_k [false, false, false, false, false, true] (i_il 4 97))) := zS_k (zS_iload d124_95)
theorem v124_97 (L : Nat) (xs : Nat → Int32) : zVal L xs 124 97 (.inl (i_al 0 98)) := zS_aload_n d124_97 rfl
theorem v124_98 (L : Nat) (xs : Nat → Int32) : zVal L xs 124 98 (.inl (i_gf 10 21 101)) := zS_getf d124_98 (zcl10) (by decide) zi10 w799
theorem v124_101 (L : Nat) (xs : Nat → Int32) : zVal L xs 124 101 (.inl (i_il 3 102)) := zS_iload_n d124_101 rfl
theorem v124_102 (L : Nat) (xs : Nat → Int32) : zVal L xs 124 102 (.inl (i_ga 0 103)) := zS_iald d124_102
theorem v124_103 (L : Nat) (xs : Nat → Int32) : zVal L xs 124 103 (.inl (i_f2 (fun x y => decide (y ≤ x)) 183 106)) := zS_icmp_ge d124_103 (by decide)
theorem v124_106 (L : Nat) (xs : Nat → Int32) : zVal L xs 124 106 (.inl (i_al 0 107)) := zS_aload_n d124_106 rfl
theorem v124_107 (L : Nat) (xs : Nat → Int32) : zVal L xs 124 107 (.inl (i_gf 10 26 110)) := zS_getf d124_107 (zcl10) (by decide) zi10 w804
theorem v124_110 (L : Nat) (xs : Nat → Int32) : zVal L xs 124 110 (.inl (i_il 1 111)) := zS_iload_n d124_110 rfl
theorem v124_111 (L : Nat) (xs : Nat → Int32) : zVal L xs 124 111 (.inl (i_ga 0 112)) := zS_iald d124_111
theorem v124_112 (L : Nat) (xs : Nat → Int32) : zVal L xs 124 112 (.inl (i_c (.int 41) 114)) := zS_bipush d124_112 (by decide)
theorem v124_114 (L : Nat) (xs : Nat → Int32) : zVal L xs 124 114 (.inl (i_f2 (fun x y => decide (y ≤ x)) 161 117)) := zS_icmp_ge d124_114 (by decide)
theorem v124_117 (L : Nat) (xs : Nat → Int32) : zVal L xs 124 117 (.inl (i_c (.int 41) 119)) := zS_bipush d124_117 (by decide)
theorem v124_119 (L : Nat) (xs : Nat → Int32) : zVal L xs 124 119 (.inl (i_il 1 120)) := zS_iload_n d124_119 rfl
theorem v124_120 (L : Nat) (xs : Nat → Int32) : zVal L xs 124 120 (.inl (i_bi (fun x y => x * y) 121)) := zS_imul d124_120
theorem v124_121 (L : Nat) (xs : Nat → Int32) : zVal L xs 124 121 (.inl (i_al 0 122)) := zS_aload_n d124_121 rfl
theorem v124_122 (L : Nat) (xs : Nat → Int32) : zVal L xs 124 122 (.inl (i_gf 10 26 125)) := zS_getf d124_122 (zcl10) (by decide) zi10 w804
theorem v124_125 (L : Nat) (xs : Nat → Int32) : zVal L xs 124 125 (.inl (i_il 1 126)) := zS_iload_n d124_125 rfl
theorem v124_126 (L : Nat) (xs : Nat → Int32) : zVal L xs 124 126 (.inl (i_ga 0 127)) := zS_iald d124_126
theorem v124_127 (L : Nat) (xs : Nat → Int32) : zVal L xs 124 127 (.inl (i_bi (fun x y => x + y) 128)) := zS_iadd d124_127
theorem v124_128 (L : Nat) (xs : Nat → Int32) : zVal L xs 124 128 (.inl (i_is 5 130)) := zS_istore d124_128
theorem v124_130 (L : Nat) (xs : Nat → Int32) : zVal L xs 124 130 (.inl (i_al 0 131)) := zS_aload_n d124_130 rfl
theorem v124_131 (L : Nat) (xs : Nat → Int32) : zVal L xs 124 131 (.inl (i_gf 10 27 134)) := zS_getf d124_131 (zcl10) (by decide) zi10 w805
theorem v124_134 (L : Nat) (xs : Nat → Int32) : zVal L xs 124 134 (.inl (i_il 5 136)) := zS_iload d124_134
theorem v124_136 (L : Nat) (xs : Nat → Int32) : zVal L xs 124 136 (.inl (i_il 3 137)) := zS_iload_n d124_136 rfl
theorem v124_137 (L : Nat) (xs : Nat → Int32) : zVal L xs 124 137 (.inl (i_pa 0 (fun x => x) 138)) := zS_iast d124_137
theorem v124_138 (L : Nat) (xs : Nat → Int32) : zVal L xs 124 138 (.inl (i_al 0 139)) := zS_aload_n d124_138 rfl
theorem v124_139 (L : Nat) (xs : Nat → Int32) : zVal L xs 124 139 (.inl (i_gf 10 28 142)) := zS_getf d124_139 (zcl10) (by decide) zi10 w806
theorem v124_142 (L : Nat) (xs : Nat → Int32) : zVal L xs 124 142 (.inl (i_il 5 144)) := zS_iload d124_142
theorem v124_144 (L : Nat) (xs : Nat → Int32) : zVal L xs 124 144 (.inl (i_il 4 146)) := zS_iload d124_144
theorem v124_146 (L : Nat) (xs : Nat → Int32) : zVal L xs 124 146 (.inl (i_pa 0 (fun x => x) 147)) := zS_iast d124_146
theorem v124_147 (L : Nat) (xs : Nat → Int32) : zVal L xs 124 147 (.inl (i_al 0 148)) := zS_aload_n d124_147 rfl
theorem v124_148 (L : Nat) (xs : Nat → Int32) : zVal L xs 124 148 (.inl (i_gf 10 29 151)) := zS_getf d124_148 (zcl10) (by decide) zi10 w807
theorem v124_151 (L : Nat) (xs : Nat → Int32) : zVal L xs 124 151 (.inl (i_il 5 153)) := zS_iload d124_151
theorem v124_153 (L : Nat) (xs : Nat → Int32) : zVal L xs 124 153 (.inl (i_al 0 154)) := zS_aload_n d124_153 rfl
theorem v124_154 (L : Nat) (xs : Nat → Int32) : zVal L xs 124 154 (.inl (i_gf 10 34 157)) := zS_getf d124_154 (zcl10) (by decide) zi10 w812
theorem v124_157 (L : Nat) (xs : Nat → Int32) : zVal L xs 124 157 (.inl (i_il 4 159)) := zS_iload d124_157
theorem v124_159 (L : Nat) (xs : Nat → Int32) : zVal L xs 124 159 (.inl (i_ga 0 160)) := zS_iald d124_159
theorem v124_160 (L : Nat) (xs : Nat → Int32) : zVal L xs 124 160 (.inl (i_pa 0 (fun x => x) 161)) := zS_iast d124_160
theorem v124_161 (L : Nat) (xs : Nat → Int32) : zVal L xs 124 161 (.inl (i_k [false, false, false, false, false, true] (i_al 0 162))) := zS_k (zS_aload_n d124_161 rfl)
theorem v124_162 (L : Nat) (xs : Nat → Int32) : zVal L xs 124 162 (.inl (i_gf 10 26 165)) := zS_getf d124_162 (zcl10) (by decide) zi10 w804
theorem v124_165 (L : Nat) (xs : Nat → Int32) : zVal L xs 124 165 (.inl (i_il 1 166)) := zS_iload_n d124_165 rfl
theorem v124_166 (L : Nat) (xs : Nat → Int32) : zVal L xs 124 166 (.inl (i_d2 167)) := zS_dup2 d124_166
theorem v124_167 (L : Nat) (xs : Nat → Int32) : zVal L xs 124 167 (.inl (i_ga 0 168)) := zS_iald d124_167
theorem v124_168 (L : Nat) (xs : Nat → Int32) : zVal L xs 124 168 (.inl (i_c (.int 1) 169)) := zS_iconst d124_168 (by decide)
theorem v124_169 (L : Nat) (xs : Nat → Int32) : zVal L xs 124 169 (.inl (i_bi (fun x y => x + y) 170)) := zS_iadd d124_169
theorem v124_170 (L : Nat) (xs : Nat → Int32) : zVal L xs 124 170 (.inl (i_pa 0 (fun x => x) 171)) := zS_iast d124_170
theorem v124_171 (L : Nat) (xs : Nat → Int32) : zVal L xs 124 171 (.inl (i_al 0 172)) := zS_aload_n d124_171 rfl
theorem v124_172 (L : Nat) (xs : Nat → Int32) : zVal L xs 124 172 (.inl (i_gf 10 34 175)) := zS_getf d124_172 (zcl10) (by decide) zi10 w812
theorem v124_175 (L : Nat) (xs : Nat → Int32) : zVal L xs 124 175 (.inl (i_il 4 177)) := zS_iload d124_175
theorem v124_177 (L : Nat) (xs : Nat → Int32) : zVal L xs 124 177 (.inl (i_ga 0 178)) := zS_iald d124_177
theorem v124_178 (L : Nat) (xs : Nat → Int32) : zVal L xs 124 178 (.inl (i_is 4 180)) := zS_istore d124_178
theorem v124_180 (L : Nat) (xs : Nat → Int32) : zVal L xs 124 180 (.inl (i_go 95)) := zS_goto d124_180 (by decide)
theorem v124_183 (L : Nat) (xs : Nat → Int32) : zVal L xs 124 183 (.inl (i_in 2 1 186)) := zS_iinc d124_183 (by decide)
theorem v124_186 (L : Nat) (xs : Nat → Int32) : zVal L xs 124 186 (.inl (i_go 16)) := zS_goto d124_186 (by decide)
theorem v124_189 (L : Nat) (xs : Nat → Int32) : zVal L xs 124 189 (.inl (i_al 0 190)) := zS_aload_n d124_189 rfl
theorem v124_190 (L : Nat) (xs : Nat → Int32) : zVal L xs 124 190 (.inl (i_gf 10 26 193)) := zS_getf d124_190 (zcl10) (by decide) zi10 w804
theorem v124_193 (L : Nat) (xs : Nat → Int32) : zVal L xs 124 193 (.inl (i_il 1 194)) := zS_iload_n d124_193 rfl
theorem v124_194 (L : Nat) (xs : Nat → Int32) : zVal L xs 124 194 (.inl (i_al 0 195)) := zS_aload_n d124_194 rfl
theorem v124_195 (L : Nat) (xs : Nat → Int32) : zVal L xs 124 195 (.inl (i_gf 10 25 198)) := zS_getf d124_195 (zcl10) (by decide) zi10 w803
theorem v124_198 (L : Nat) (xs : Nat → Int32) : zVal L xs 124 198 (.inl (i_il 1 199)) := zS_iload_n d124_198 rfl
theorem v124_199 (L : Nat) (xs : Nat → Int32) : zVal L xs 124 199 (.inl (i_ga 0 200)) := zS_iald d124_199
theorem v124_200 (L : Nat) (xs : Nat → Int32) : zVal L xs 124 200 (.inl (i_c (.int 1) 201)) := zS_iconst d124_200 (by decide)
theorem v124_201 (L : Nat) (xs : Nat → Int32) : zVal L xs 124 201 (.inl (i_f2 (fun x y => decide (¬ x = y)) 208 204)) := zS_icmp_ne d124_201 (by decide)
theorem v124_204 (L : Nat) (xs : Nat → Int32) : zVal L xs 124 204 (.inl (i_c (.int 0) 205)) := zS_iconst d124_204 (by decide)
theorem v124_205 (L : Nat) (xs : Nat → Int32) : zVal L xs 124 205 (.inl (i_go 214)) := zS_goto d124_205 (by decide)
theorem v124_208 (L : Nat) (xs : Nat → Int32) : zVal L xs 124 208 (.inl (i_al 0 209)) := zS_aload_n d124_208 rfl
theorem v124_209 (L : Nat) (xs : Nat → Int32) : zVal L xs 124 209 (.inl (i_gf 10 26 212)) := zS_getf d124_209 (zcl10) (by decide) zi10 w804
theorem v124_212 (L : Nat) (xs : Nat → Int32) : zVal L xs 124 212 (.inl (i_il 1 213)) := zS_iload_n d124_212 rfl
theorem v124_213 (L : Nat) (xs : Nat → Int32) : zVal L xs 124 213 (.inl (i_ga 0 214)) := zS_iald d124_213
theorem v124_214 (L : Nat) (xs : Nat → Int32) : zVal L xs 124 214 (.inl (i_k [false, false, true, true, true, true] (i_pa 0 (fun x => x) 215))) := zS_k (zS_iast d124_214)
theorem v124_215 (L : Nat) (xs : Nat → Int32) : zVal L xs 124 215 (.inl (i_al 0 216)) := zS_aload_n d124_215 rfl
theorem v124_216 (L : Nat) (xs : Nat → Int32) : zVal L xs 124 216 (.inl (i_gf 10 25 219)) := zS_getf d124_216 (zcl10) (by decide) zi10 w803
theorem v124_219 (L : Nat) (xs : Nat → Int32) : zVal L xs 124 219 (.inl (i_il 1 220)) := zS_iload_n d124_219 rfl
theorem v124_220 (L : Nat) (xs : Nat → Int32) : zVal L xs 124 220 (.inl (i_al 0 221)) := zS_aload_n d124_220 rfl
theorem v124_221 (L : Nat) (xs : Nat → Int32) : zVal L xs 124 221 (.inl (i_gf 10 25 224)) := zS_getf d124_221 (zcl10) (by decide) zi10 w803
theorem v124_224 (L : Nat) (xs : Nat → Int32) : zVal L xs 124 224 (.inl (i_il 1 225)) := zS_iload_n d124_224 rfl
theorem v124_225 (L : Nat) (xs : Nat → Int32) : zVal L xs 124 225 (.inl (i_ga 0 226)) := zS_iald d124_225
theorem v124_226 (L : Nat) (xs : Nat → Int32) : zVal L xs 124 226 (.inl (i_c (.int 1) 227)) := zS_iconst d124_226 (by decide)
theorem v124_227 (L : Nat) (xs : Nat → Int32) : zVal L xs 124 227 (.inl (i_f2 (fun x y => decide (¬ x = y)) 234 230)) := zS_icmp_ne d124_227 (by decide)
theorem v124_230 (L : Nat) (xs : Nat → Int32) : zVal L xs 124 230 (.inl (i_c (.int 1) 231)) := zS_iconst d124_230 (by decide)
theorem v124_231 (L : Nat) (xs : Nat → Int32) : zVal L xs 124 231 (.inl (i_go 259)) := zS_goto d124_231 (by decide)
theorem v124_234 (L : Nat) (xs : Nat → Int32) : zVal L xs 124 234 (.inl (i_al 0 235)) := zS_aload_n d124_234 rfl
theorem v124_235 (L : Nat) (xs : Nat → Int32) : zVal L xs 124 235 (.inl (i_gf 10 26 238)) := zS_getf d124_235 (zcl10) (by decide) zi10 w804
theorem v124_238 (L : Nat) (xs : Nat → Int32) : zVal L xs 124 238 (.inl (i_il 1 239)) := zS_iload_n d124_238 rfl
theorem v124_239 (L : Nat) (xs : Nat → Int32) : zVal L xs 124 239 (.inl (i_ga 0 240)) := zS_iald d124_239
theorem v124_240 (L : Nat) (xs : Nat → Int32) : zVal L xs 124 240 (.inl (i_f1 (fun x => decide (x = 0)) 254 243)) := zS_if_eq d124_240 (by decide)
theorem v124_243 (L : Nat) (xs : Nat → Int32) : zVal L xs 124 243 (.inl (i_al 0 244)) := zS_aload_n d124_243 rfl
theorem v124_244 (L : Nat) (xs : Nat → Int32) : zVal L xs 124 244 (.inl (i_gf 10 26 247)) := zS_getf d124_244 (zcl10) (by decide) zi10 w804
theorem v124_247 (L : Nat) (xs : Nat → Int32) : zVal L xs 124 247 (.inl (i_il 1 248)) := zS_iload_n d124_247 rfl
theorem v124_248 (L : Nat) (xs : Nat → Int32) : zVal L xs 124 248 (.inl (i_ga 0 249)) := zS_iald d124_248
theorem v124_249 (L : Nat) (xs : Nat → Int32) : zVal L xs 124 249 (.inl (i_c (.int 40) 251)) := zS_bipush d124_249 (by decide)
theorem v124_251 (L : Nat) (xs : Nat → Int32) : zVal L xs 124 251 (.inl (i_f2 (fun x y => decide (x ≤ y)) 258 254)) := zS_icmp_le d124_251 (by decide)
theorem v124_254 (L : Nat) (xs : Nat → Int32) : zVal L xs 124 254 (.inl (i_k [true, true, true, true, true, true] (i_c (.int 2) 255))) := zS_k (zS_iconst d124_254 (by decide))
theorem v124_255 (L : Nat) (xs : Nat → Int32) : zVal L xs 124 255 (.inl (i_go 259)) := zS_goto d124_255 (by decide)
theorem v124_258 (L : Nat) (xs : Nat → Int32) : zVal L xs 124 258 (.inl (i_c (.int 0) 259)) := zS_iconst d124_258 (by decide)
theorem v124_259 (L : Nat) (xs : Nat → Int32) : zVal L xs 124 259 (.inl (i_k [true, true, true, true, true, true] (i_pa 0 (fun x => x) 260))) := zS_k (zS_iast d124_259)
theorem v124_260 (L : Nat) (xs : Nat → Int32) : zVal L xs 124 260 (.inr (.inr 0)) := zr_0 d124_260 rfl
theorem vt124_0 (L : Nat) (xs : Nat → Int32) : zAll (fun x => zVal L xs 124 x.1 x.2) (tb124_0) := ⟨v124_0 L xs, v124_1 L xs, v124_4 L xs, v124_5 L xs, v124_6 L xs, v124_7 L xs, v124_8 L xs, v124_11 L xs, v124_12 L xs, v124_13 L xs, v124_14 L xs, v124_15 L xs, v124_16 L xs, v124_17 L xs, v124_18 L xs, v124_21 L xs, v124_22 L xs, v124_23 L xs, v124_26 L xs, v124_27 L xs, v124_28 L xs, v124_29 L xs, v124_30 L xs, v124_31 L xs, v124_32 L xs, v124_33 L xs, v124_34 L xs, v124_37 L xs, v124_38 L xs, v124_41 L xs, v124_42 L xs, v124_43 L xs, v124_46 L xs, v124_47 L xs, v124_48 L xs, v124_49 L xs, v124_50 L xs, v124_53 L xs, v124_54 L xs, v124_55 L xs, v124_58 L xs, v124_59 L xs, v124_60 L xs, v124_63 L xs, v124_64 L xs, v124_67 L xs, v124_68 L xs, v124_71 L xs, v124_72 L xs, v124_73 L xs, v124_74 L xs, v124_75 L xs, v124_78 L xs, v124_79 L xs, v124_80 L xs, v124_83 L xs, v124_84 L xs, v124_87 L xs, v124_88 L xs, v124_89 L xs, v124_92 L xs, v124_93 L xs, v124_95 L xs, v124_97 L xs, v124_98 L xs, v124_101 L xs, v124_102 L xs, v124_103 L xs, v124_106 L xs, v124_107 L xs, v124_110 L xs, v124_111 L xs, v124_112 L xs, v124_114 L xs, v124_117 L xs, v124_119 L xs, v124_120 L xs, v124_121 L xs, v124_122 L xs, v124_125 L xs, v124_126 L xs, v124_127 L xs, v124_128 L xs, v124_130 L xs, v124_131 L xs, v124_134 L xs, v124_136 L xs, v124_137 L xs, v124_138 L xs, v124_139 L xs, v124_142 L xs, v124_144 L xs, v124_146 L xs, v124_147 L xs, v124_148 L xs, v124_151 L xs, v124_153 L xs, v124_154 L xs, v124_157 L xs, v124_159 L xs, v124_160 L xs, v124_161 L xs, v124_162 L xs, v124_165 L xs, v124_166 L xs, v124_167 L xs, v124_168 L xs, v124_169 L xs, v124_170 L xs, v124_171 L xs, v124_172 L xs, v124_175 L xs, v124_177 L xs, v124_178 L xs, v124_180 L xs, v124_183 L xs, v124_186 L xs, v124_189 L xs, v124_190 L xs, v124_193 L xs, trivial⟩
theorem vt124_1 (L : Nat) (xs : Nat → Int32) : zAll (fun x => zVal L xs 124 x.1 x.2) (tb124_1) := ⟨v124_194 L xs, v124_195 L xs, v124_198 L xs, v124_199 L xs, v124_200 L xs, v124_201 L xs, v124_204 L xs, v124_205 L xs, v124_208 L xs, v124_209 L xs, v124_212 L xs, v124_213 L xs, v124_214 L xs, v124_215 L xs, v124_216 L xs, v124_219 L xs, v124_220 L xs, v124_221 L xs, v124_224 L xs, v124_225 L xs, v124_226 L xs, v124_227 L xs, v124_230 L xs, v124_231 L xs, v124_234 L xs, v124_235 L xs, v124_238 L xs, v124_239 L xs, v124_240 L xs, v124_243 L xs, v124_244 L xs, v124_247 L xs, v124_248 L xs, v124_249 L xs, v124_251 L xs, v124_254 L xs, v124_255 L xs, v124_258 L xs, v124_259 L xs, v124_260 L xs, trivial⟩
theorem vt124 (L : Nat) (xs : Nat → Int32) : zAll (fun x => zVal L xs 124 x.1 x.2) (tb124) := zAll_app (vt124_0 L xs) (vt124_1 L xs)
theorem d125_0 : decode (mB 125) 0 = .ok (.bipush 41, 2) := by decide +kernel
theorem d125_2 : decode (mB 125) 2 = .ok (.iload_n 1, 1) := by decide +kernel
theorem d125_3 : decode (mB 125) 3 = .ok (.imul, 1) := by decide +kernel
theorem d125_4 : decode (mB 125) 4 = .ok (.iload_n 2, 1) := by decide +kernel
theorem d125_5 : decode (mB 125) 5 = .ok (.iadd, 1) := by decide +kernel
theorem d125_6 : decode (mB 125) 6 = .ok (.iconst 1, 1) := by decide +kernel
theorem d125_7 : decode (mB 125) 7 = .ok (.isub, 1) := by decide +kernel
theorem d125_8 : decode (mB 125) 8 = .ok (.istore_n 3, 1) := by decide +kernel
theorem d125_9 : decode (mB 125) 9 = .ok (.iload_n 3, 1) := by decide +kernel
theorem d125_10 : decode (mB 125) 10 = .ok (.iconst 1, 1) := by decide +kernel
theorem d125_11 : decode (mB 125) 11 = .ok (.iadd, 1) := by decide +kernel
theorem d125_12 : decode (mB 125) 12 = .ok (.istore 4, 2) := by decide +kernel
theorem d125_14 : decode (mB 125) 14 = .ok (.aload_n 0, 1) := by decide +kernel
theorem d125_15 : decode (mB 125) 15 = .ok (.getfield 68, 3) := by decide +kernel
theorem d125_18 : decode (mB 125) 18 = .ok (.iload_n 3, 1) := by decide +kernel
theorem d125_19 : decode (mB 125) 19 = .ok (.iaload, 1) := by decide +kernel
theorem d125_20 : decode (mB 125) 20 = .ok (.aload_n 0, 1) := by decide +kernel
theorem d125_21 : decode (mB 125) 21 = .ok (.getfield 68, 3) := by decide +kernel
theorem d125_24 : decode (mB 125) 24 = .ok (.iload 4, 2) := by decide +kernel
theorem d125_26 : decode (mB 125) 26 = .ok (.iaload, 1) := by decide +kernel
theorem d125_27 : decode (mB 125) 27 = .ok (.if_icmp .ne 7, 3) := by decide +kernel
theorem d125_30 : decode (mB 125) 30 = .ok (.iconst 1, 1) := by decide +kernel
theorem d125_31 : decode (mB 125) 31 = .ok (.goto 4, 3) := by decide +kernel
theorem d125_34 : decode (mB 125) 34 = .ok (.iconst 0, 1) := by decide +kernel
theorem d125_35 : decode (mB 125) 35 = .ok (.istore 5, 2) := by decide +kernel
theorem d125_37 : decode (mB 125) 37 = .ok (.iload 5, 2) := by decide +kernel
theorem d125_39 : decode (mB 125) 39 = .ok (.ifCond .eq 38, 3) := by decide +kernel
theorem d125_42 : decode (mB 125) 42 = .ok (.aload_n 0, 1) := by decide +kernel
theorem d125_43 : decode (mB 125) 43 = .ok (.getfield 71, 3) := by decide +kernel
theorem d125_46 : decode (mB 125) 46 = .ok (.iload_n 3, 1) := by decide +kernel
theorem d125_47 : decode (mB 125) 47 = .ok (.iaload, 1) := by decide +kernel
theorem d125_48 : decode (mB 125) 48 = .ok (.ifCond .eq 25, 3) := by decide +kernel
theorem d125_51 : decode (mB 125) 51 = .ok (.aload_n 0, 1) := by decide +kernel
theorem d125_52 : decode (mB 125) 52 = .ok (.getfield 74, 3) := by decide +kernel
theorem d125_55 : decode (mB 125) 55 = .ok (.iload 4, 2) := by decide +kernel
theorem d125_57 : decode (mB 125) 57 = .ok (.iaload, 1) := by decide +kernel
theorem d125_58 : decode (mB 125) 58 = .ok (.aload_n 0, 1) := by decide +kernel
theorem d125_59 : decode (mB 125) 59 = .ok (.getfield 55, 3) := by decide +kernel
theorem d125_62 : decode (mB 125) 62 = .ok (.aload_n 0, 1) := by decide +kernel
theorem d125_63 : decode (mB 125) 63 = .ok (.getfield 68, 3) := by decide +kernel
theorem d125_66 : decode (mB 125) 66 = .ok (.iload 4, 2) := by decide +kernel
theorem d125_68 : decode (mB 125) 68 = .ok (.iaload, 1) := by decide +kernel
theorem d125_69 : decode (mB 125) 69 = .ok (.iaload, 1) := by decide +kernel
theorem d125_70 : decode (mB 125) 70 = .ok (.if_icmp .ne 7, 3) := by decide +kernel
theorem d125_73 : decode (mB 125) 73 = .ok (.iconst 1, 1) := by decide +kernel
theorem d125_74 : decode (mB 125) 74 = .ok (.goto 4, 3) := by decide +kernel
theorem d125_77 : decode (mB 125) 77 = .ok (.iconst 0, 1) := by decide +kernel
theorem d125_78 : decode (mB 125) 78 = .ok (.ireturn, 1) := by decide +kernel
theorem v125_0 (L : Nat) (xs : Nat → Int32) : zVal L xs 125 0 (.inl (i_c (.int 41) 2)) := zS_bipush d125_0 (by decide)
theorem v125_2 (L : Nat) (xs : Nat → Int32) : zVal L xs 125 2 (.inl (i_il 1 3)) := zS_iload_n d125_2 rfl
theorem v125_3 (L : Nat) (xs : Nat → Int32) : zVal L xs 125 3 (.inl (i_bi (fun x y => x * y) 4)) := zS_imul d125_3
theorem v125_4 (L : Nat) (xs : Nat → Int32) : zVal L xs 125 4 (.inl (i_il 2 5)) := zS_iload_n d125_4 rfl
theorem v125_5 (L : Nat) (xs : Nat → Int32) : zVal L xs 125 5 (.inl (i_bi (fun x y => x + y) 6)) := zS_iadd d125_5
theorem v125_6 (L : Nat) (xs : Nat → Int32) : zVal L xs 125 6 (.inl (i_c (.int 1) 7)) := zS_iconst d125_6 (by decide)
theorem v125_7 (L : Nat) (xs : Nat → Int32) : zVal L xs 125 7 (.inl (i_bi (fun x y => x - y) 8)) := zS_isub d125_7
theorem v125_8 (L : Nat) (xs : Nat → Int32) : zVal L xs 125 8 (.inl (i_is 3 9)) := zS_istore_n d125_8 rfl
theorem v125_9 (L : Nat) (xs : Nat → Int32) : zVal L xs 125 9 (.inl (i_il 3 10)) := zS_iload_n d125_9 rfl
theorem v125_10 (L : Nat) (xs : Nat → Int32) : zVal L xs 125 10 (.inl (i_c (.int 1) 11)) := zS_iconst d125_10 (by decide)
theorem v125_11 (L : Nat) (xs : Nat → Int32) : zVal L xs 125 11 (.inl (i_bi (fun x y => x + y) 12)) := zS_iadd d125_11
theorem v125_12 (L : Nat) (xs : Nat → Int32) : zVal L xs 125 12 (.inl (i_is 4 14)) := zS_istore d125_12
theorem v125_14 (L : Nat) (xs : Nat → Int32) : zVal L xs 125 14 (.inl (i_al 0 15)) := zS_aload_n d125_14 rfl
theorem v125_15 (L : Nat) (xs : Nat → Int32) : zVal L xs 125 15 (.inl (i_gf 10 27 18)) := zS_getf d125_15 (zcl10) (by decide) zi10 w805
theorem v125_18 (L : Nat) (xs : Nat → Int32) : zVal L xs 125 18 (.inl (i_il 3 19)) := zS_iload_n d125_18 rfl
theorem v125_19 (L : Nat) (xs : Nat → Int32) : zVal L xs 125 19 (.inl (i_ga 0 20)) := zS_iald d125_19
theorem v125_20 (L : Nat) (xs : Nat → Int32) : zVal L xs 125 20 (.inl (i_al 0 21)) := zS_aload_n d125_20 rfl
theorem v125_21 (L : Nat) (xs : Nat → Int32) : zVal L xs 125 21 (.inl (i_gf 10 27 24)) := zS_getf d125_21 (zcl10) (by decide) zi10 w805
theorem v125_24 (L : Nat) (xs : Nat → Int32) : zVal L xs 125 24 (.inl (i_il 4 26)) := zS_iload d125_24
theorem v125_26 (L : Nat) (xs : Nat → Int32) : zVal L xs 125 26 (.inl (i_ga 0 27)) := zS_iald d125_26
theorem v125_27 (L : Nat) (xs : Nat → Int32) : zVal L xs 125 27 (.inl (i_f2 (fun x y => decide (¬ x = y)) 34 30)) := zS_icmp_ne d125_27 (by decide)
theorem v125_30 (L : Nat) (xs : Nat → Int32) : zVal L xs 125 30 (.inl (i_c (.int 1) 31)) := zS_iconst d125_30 (by decide)
theorem v125_31 (L : Nat) (xs : Nat → Int32) : zVal L xs 125 31 (.inl (i_go 35)) := zS_goto d125_31 (by decide)
theorem v125_34 (L : Nat) (xs : Nat → Int32) : zVal L xs 125 34 (.inl (i_c (.int 0) 35)) := zS_iconst d125_34 (by decide)
theorem v125_35 (L : Nat) (xs : Nat → Int32) : zVal L xs 125 35 (.inl (i_k [false, true, true, false, false, true] (i_is 5 37))) := zS_k (zS_istore d125_35)
theorem v125_37 (L : Nat) (xs : Nat → Int32) : zVal L xs 125 37 (.inl (i_il 5 39)) := zS_iload d125_37
theorem v125_39 (L : Nat) (xs : Nat → Int32) : zVal L xs 125 39 (.inl (i_f1 (fun x => decide (x = 0)) 77 42)) := zS_if_eq d125_39 (by decide)
theorem v125_42 (L : Nat) (xs : Nat → Int32) : zVal L xs 125 42 (.inl (i_al 0 43)) := zS_aload_n d125_42 rfl
theorem v125_43 (L : Nat) (xs : Nat → Int32) : zVal L xs 125 43 (.inl (i_gf 10 28 46)) := zS_getf d125_43 (zcl10) (by decide) zi10 w806
theorem v125_46 (L : Nat) (xs : Nat → Int32) : zVal L xs 125 46 (.inl (i_il 3 47)) := zS_iload_n d125_46 rfl
theorem v125_47 (L : Nat) (xs : Nat → Int32) : zVal L xs 125 47 (.inl (i_ga 0 48)) := zS_iald d125_47
theorem v125_48 (L : Nat) (xs : Nat → Int32) : zVal L xs 125 48 (.inl (i_f1 (fun x => decide (x = 0)) 73 51)) := zS_if_eq d125_48 (by decide)
theorem v125_51 (L : Nat) (xs : Nat → Int32) : zVal L xs 125 51 (.inl (i_al 0 52)) := zS_aload_n d125_51 rfl
theorem v125_52 (L : Nat) (xs : Nat → Int32) : zVal L xs 125 52 (.inl (i_gf 10 29 55)) := zS_getf d125_52 (zcl10) (by decide) zi10 w807
theorem v125_55 (L : Nat) (xs : Nat → Int32) : zVal L xs 125 55 (.inl (i_il 4 57)) := zS_iload d125_55
theorem v125_57 (L : Nat) (xs : Nat → Int32) : zVal L xs 125 57 (.inl (i_ga 0 58)) := zS_iald d125_57
theorem v125_58 (L : Nat) (xs : Nat → Int32) : zVal L xs 125 58 (.inl (i_al 0 59)) := zS_aload_n d125_58 rfl
theorem v125_59 (L : Nat) (xs : Nat → Int32) : zVal L xs 125 59 (.inl (i_gf 10 21 62)) := zS_getf d125_59 (zcl10) (by decide) zi10 w799
theorem v125_62 (L : Nat) (xs : Nat → Int32) : zVal L xs 125 62 (.inl (i_al 0 63)) := zS_aload_n d125_62 rfl
theorem v125_63 (L : Nat) (xs : Nat → Int32) : zVal L xs 125 63 (.inl (i_gf 10 27 66)) := zS_getf d125_63 (zcl10) (by decide) zi10 w805
theorem v125_66 (L : Nat) (xs : Nat → Int32) : zVal L xs 125 66 (.inl (i_il 4 68)) := zS_iload d125_66
theorem v125_68 (L : Nat) (xs : Nat → Int32) : zVal L xs 125 68 (.inl (i_ga 0 69)) := zS_iald d125_68
theorem v125_69 (L : Nat) (xs : Nat → Int32) : zVal L xs 125 69 (.inl (i_ga 0 70)) := zS_iald d125_69
theorem v125_70 (L : Nat) (xs : Nat → Int32) : zVal L xs 125 70 (.inl (i_f2 (fun x y => decide (¬ x = y)) 77 73)) := zS_icmp_ne d125_70 (by decide)
theorem v125_73 (L : Nat) (xs : Nat → Int32) : zVal L xs 125 73 (.inl (i_k [true, true, true, true, true, true] (i_c (.int 1) 74))) := zS_k (zS_iconst d125_73 (by decide))
theorem v125_74 (L : Nat) (xs : Nat → Int32) : zVal L xs 125 74 (.inl (i_go 78)) := zS_goto d125_74 (by decide)
theorem v125_77 (L : Nat) (xs : Nat → Int32) : zVal L xs 125 77 (.inl (i_k [true, true, true, true, true, true] (i_c (.int 0) 78))) := zS_k (zS_iconst d125_77 (by decide))
theorem v125_78 (L : Nat) (xs : Nat → Int32) : zVal L xs 125 78 (.inr (.inr 2)) := zr_2 d125_78 rfl
theorem vt125 (L : Nat) (xs : Nat → Int32) : zAll (fun x => zVal L xs 125 x.1 x.2) (tb125) := ⟨v125_0 L xs, v125_2 L xs, v125_3 L xs, v125_4 L xs, v125_5 L xs, v125_6 L xs, v125_7 L xs, v125_8 L xs, v125_9 L xs, v125_10 L xs, v125_11 L xs, v125_12 L xs, v125_14 L xs, v125_15 L xs, v125_18 L xs, v125_19 L xs, v125_20 L xs, v125_21 L xs, v125_24 L xs, v125_26 L xs, v125_27 L xs, v125_30 L xs, v125_31 L xs, v125_34 L xs, v125_35 L xs, v125_37 L xs, v125_39 L xs, v125_42 L xs, v125_43 L xs, v125_46 L xs, v125_47 L xs, v125_48 L xs, v125_51 L xs, v125_52 L xs, v125_55 L xs, v125_57 L xs, v125_58 L xs, v125_59 L xs, v125_62 L xs, v125_63 L xs, v125_66 L xs, v125_68 L xs, v125_69 L xs, v125_70 L xs, v125_73 L xs, v125_74 L xs, v125_77 L xs, v125_78 L xs, trivial⟩
theorem d126_0 : decode (mB 126) 0 = .ok (.iconst 1, 1) := by decide +kernel
theorem d126_1 : decode (mB 126) 1 = .ok (.istore 6, 2) := by decide +kernel
theorem d126_3 : decode (mB 126) 3 = .ok (.iconst 0, 1) := by decide +kernel
theorem d126_4 : decode (mB 126) 4 = .ok (.istore 7, 2) := by decide +kernel
theorem d126_6 : decode (mB 126) 6 = .ok (.iload 7, 2) := by decide +kernel
theorem d126_8 : decode (mB 126) 8 = .ok (.iload_n 1, 1) := by decide +kernel
theorem d126_9 : decode (mB 126) 9 = .ok (.if_icmp .ge 67, 3) := by decide +kernel
theorem d126_12 : decode (mB 126) 12 = .ok (.aload_n 0, 1) := by decide +kernel
theorem d126_13 : decode (mB 126) 13 = .ok (.getfield 102, 3) := by decide +kernel
theorem d126_16 : decode (mB 126) 16 = .ok (.iload 7, 2) := by decide +kernel
theorem d126_18 : decode (mB 126) 18 = .ok (.iload_n 2, 1) := by decide +kernel
theorem d126_19 : decode (mB 126) 19 = .ok (.iload 7, 2) := by decide +kernel
theorem d126_21 : decode (mB 126) 21 = .ok (.iload_n 3, 1) := by decide +kernel
theorem d126_22 : decode (mB 126) 22 = .ok (.if_icmp .ge 8, 3) := by decide +kernel
theorem d126_25 : decode (mB 126) 25 = .ok (.iload 4, 2) := by decide +kernel
theorem d126_27 : decode (mB 126) 27 = .ok (.goto 4, 3) := by decide +kernel
theorem d126_30 : decode (mB 126) 30 = .ok (.iconst 0, 1) := by decide +kernel
theorem d126_31 : decode (mB 126) 31 = .ok (.isub, 1) := by decide +kernel
theorem d126_32 : decode (mB 126) 32 = .ok (.iload 7, 2) := by decide +kernel
theorem d126_34 : decode (mB 126) 34 = .ok (.iload_n 1, 1) := by decide +kernel
theorem d126_35 : decode (mB 126) 35 = .ok (.iconst 1, 1) := by decide +kernel
theorem d126_36 : decode (mB 126) 36 = .ok (.isub, 1) := by decide +kernel
theorem d126_37 : decode (mB 126) 37 = .ok (.if_icmp .ne 8, 3) := by decide +kernel
theorem d126_40 : decode (mB 126) 40 = .ok (.iload 5, 2) := by decide +kernel
theorem d126_42 : decode (mB 126) 42 = .ok (.goto 4, 3) := by decide +kernel
theorem d126_45 : decode (mB 126) 45 = .ok (.iconst 0, 1) := by decide +kernel
theorem d126_46 : decode (mB 126) 46 = .ok (.isub, 1) := by decide +kernel
theorem d126_47 : decode (mB 126) 47 = .ok (.iastore, 1) := by decide +kernel
theorem d126_48 : decode (mB 126) 48 = .ok (.iload 6, 2) := by decide +kernel
theorem d126_50 : decode (mB 126) 50 = .ok (.ifCond .eq 17, 3) := by decide +kernel
theorem d126_53 : decode (mB 126) 53 = .ok (.aload_n 0, 1) := by decide +kernel
theorem d126_54 : decode (mB 126) 54 = .ok (.getfield 102, 3) := by decide +kernel
theorem d126_57 : decode (mB 126) 57 = .ok (.iload 7, 2) := by decide +kernel
theorem d126_59 : decode (mB 126) 59 = .ok (.iaload, 1) := by decide +kernel
theorem d126_60 : decode (mB 126) 60 = .ok (.ifCond .lt 7, 3) := by decide +kernel
theorem d126_63 : decode (mB 126) 63 = .ok (.iconst 1, 1) := by decide +kernel
theorem d126_64 : decode (mB 126) 64 = .ok (.goto 4, 3) := by decide +kernel
theorem d126_67 : decode (mB 126) 67 = .ok (.iconst 0, 1) := by decide +kernel
theorem d126_68 : decode (mB 126) 68 = .ok (.istore 6, 2) := by decide +kernel
theorem d126_70 : decode (mB 126) 70 = .ok (.iinc 7 1, 3) := by decide +kernel
theorem d126_73 : decode (mB 126) 73 = .ok (.goto (-67), 3) := by decide +kernel
theorem d126_76 : decode (mB 126) 76 = .ok (.iload 6, 2) := by decide +kernel
theorem d126_78 : decode (mB 126) 78 = .ok (.ireturn, 1) := by decide +kernel
theorem v126_0 (L : Nat) (xs : Nat → Int32) : zVal L xs 126 0 (.inl (i_c (.int 1) 1)) := zS_iconst d126_0 (by decide)
theorem v126_1 (L : Nat) (xs : Nat → Int32) : zVal L xs 126 1 (.inl (i_is 6 3)) := zS_istore d126_1
theorem v126_3 (L : Nat) (xs : Nat → Int32) : zVal L xs 126 3 (.inl (i_c (.int 0) 4)) := zS_iconst d126_3 (by decide)
theorem v126_4 (L : Nat) (xs : Nat → Int32) : zVal L xs 126 4 (.inl (i_is 7 6)) := zS_istore d126_4
theorem v126_6 (L : Nat) (xs : Nat → Int32) : zVal L xs 126 6 (.inl (i_k [false, false, false, false, false, false, false, false] (i_il 7 8))) := zS_k (zS_iload d126_6)
theorem v126_8 (L : Nat) (xs : Nat → Int32) : zVal L xs 126 8 (.inl (i_il 1 9)) := zS_iload_n d126_8 rfl
theorem v126_9 (L : Nat) (xs : Nat → Int32) : zVal L xs 126 9 (.inl (i_f2 (fun x y => decide (y ≤ x)) 76 12)) := zS_icmp_ge d126_9 (by decide)
theorem v126_12 (L : Nat) (xs : Nat → Int32) : zVal L xs 126 12 (.inl (i_al 0 13)) := zS_aload_n d126_12 rfl
theorem v126_13 (L : Nat) (xs : Nat → Int32) : zVal L xs 126 13 (.inl (i_gf 10 38 16)) := zS_getf d126_13 (zcl10) (by decide) zi10 w816
theorem v126_16 (L : Nat) (xs : Nat → Int32) : zVal L xs 126 16 (.inl (i_il 7 18)) := zS_iload d126_16
theorem v126_18 (L : Nat) (xs : Nat → Int32) : zVal L xs 126 18 (.inl (i_il 2 19)) := zS_iload_n d126_18 rfl
theorem v126_19 (L : Nat) (xs : Nat → Int32) : zVal L xs 126 19 (.inl (i_il 7 21)) := zS_iload d126_19
theorem v126_21 (L : Nat) (xs : Nat → Int32) : zVal L xs 126 21 (.inl (i_il 3 22)) := zS_iload_n d126_21 rfl
theorem v126_22 (L : Nat) (xs : Nat → Int32) : zVal L xs 126 22 (.inl (i_f2 (fun x y => decide (y ≤ x)) 30 25)) := zS_icmp_ge d126_22 (by decide)
theorem v126_25 (L : Nat) (xs : Nat → Int32) : zVal L xs 126 25 (.inl (i_il 4 27)) := zS_iload d126_25
theorem v126_27 (L : Nat) (xs : Nat → Int32) : zVal L xs 126 27 (.inl (i_go 31)) := zS_goto d126_27 (by decide)
theorem v126_30 (L : Nat) (xs : Nat → Int32) : zVal L xs 126 30 (.inl (i_c (.int 0) 31)) := zS_iconst d126_30 (by decide)
theorem v126_31 (L : Nat) (xs : Nat → Int32) : zVal L xs 126 31 (.inl (i_k [false, false, false, false, false, false, false, false] (i_bi (fun x y => x - y) 32))) := zS_k (zS_isub d126_31)
theorem v126_32 (L : Nat) (xs : Nat → Int32) : zVal L xs 126 32 (.inl (i_il 7 34)) := zS_iload d126_32
theorem v126_34 (L : Nat) (xs : Nat → Int32) : zVal L xs 126 34 (.inl (i_il 1 35)) := zS_iload_n d126_34 rfl
theorem v126_35 (L : Nat) (xs : Nat → Int32) : zVal L xs 126 35 (.inl (i_c (.int 1) 36)) := zS_iconst d126_35 (by decide)
theorem v126_36 (L : Nat) (xs : Nat → Int32) : zVal L xs 126 36 (.inl (i_bi (fun x y => x - y) 37)) := zS_isub d126_36
theorem v126_37 (L : Nat) (xs : Nat → Int32) : zVal L xs 126 37 (.inl (i_f2 (fun x y => decide (¬ x = y)) 45 40)) := zS_icmp_ne d126_37 (by decide)
theorem v126_40 (L : Nat) (xs : Nat → Int32) : zVal L xs 126 40 (.inl (i_il 5 42)) := zS_iload d126_40
theorem v126_42 (L : Nat) (xs : Nat → Int32) : zVal L xs 126 42 (.inl (i_go 46)) := zS_goto d126_42 (by decide)
theorem v126_45 (L : Nat) (xs : Nat → Int32) : zVal L xs 126 45 (.inl (i_c (.int 0) 46)) := zS_iconst d126_45 (by decide)
theorem v126_46 (L : Nat) (xs : Nat → Int32) : zVal L xs 126 46 (.inl (i_k [false, false, false, false, false, false, false, false] (i_bi (fun x y => x - y) 47))) := zS_k (zS_isub d126_46)
theorem v126_47 (L : Nat) (xs : Nat → Int32) : zVal L xs 126 47 (.inl (i_pa 0 (fun x => x) 48)) := zS_iast d126_47
theorem v126_48 (L : Nat) (xs : Nat → Int32) : zVal L xs 126 48 (.inl (i_il 6 50)) := zS_iload d126_48
theorem v126_50 (L : Nat) (xs : Nat → Int32) : zVal L xs 126 50 (.inl (i_f1 (fun x => decide (x = 0)) 67 53)) := zS_if_eq d126_50 (by decide)
theorem v126_53 (L : Nat) (xs : Nat → Int32) : zVal L xs 126 53 (.inl (i_al 0 54)) := zS_aload_n d126_53 rfl
theorem v126_54 (L : Nat) (xs : Nat → Int32) : zVal L xs 126 54 (.inl (i_gf 10 38 57)) := zS_getf d126_54 (zcl10) (by decide) zi10 w816
theorem v126_57 (L : Nat) (xs : Nat → Int32) : zVal L xs 126 57 (.inl (i_il 7 59)) := zS_iload d126_57
theorem v126_59 (L : Nat) (xs : Nat → Int32) : zVal L xs 126 59 (.inl (i_ga 0 60)) := zS_iald d126_59
theorem v126_60 (L : Nat) (xs : Nat → Int32) : zVal L xs 126 60 (.inl (i_f1 (fun x => decide (x < 0)) 67 63)) := zS_if_lt d126_60 (by decide)
theorem v126_63 (L : Nat) (xs : Nat → Int32) : zVal L xs 126 63 (.inl (i_c (.int 1) 64)) := zS_iconst d126_63 (by decide)
theorem v126_64 (L : Nat) (xs : Nat → Int32) : zVal L xs 126 64 (.inl (i_go 68)) := zS_goto d126_64 (by decide)
theorem v126_67 (L : Nat) (xs : Nat → Int32) : zVal L xs 126 67 (.inl (i_k [false, false, false, false, false, false, true, false] (i_c (.int 0) 68))) := zS_k (zS_iconst d126_67 (by decide))
theorem v126_68 (L : Nat) (xs : Nat → Int32) : zVal L xs 126 68 (.inl (i_k [false, false, false, false, false, false, true, false] (i_is 6 70))) := zS_k (zS_istore d126_68)
theorem v126_70 (L : Nat) (xs : Nat → Int32) : zVal L xs 126 70 (.inl (i_in 7 1 73)) := zS_iinc d126_70 (by decide)
theorem v126_73 (L : Nat) (xs : Nat → Int32) : zVal L xs 126 73 (.inl (i_go 6)) := zS_goto d126_73 (by decide)
theorem v126_76 (L : Nat) (xs : Nat → Int32) : zVal L xs 126 76 (.inl (i_il 6 78)) := zS_iload d126_76
theorem v126_78 (L : Nat) (xs : Nat → Int32) : zVal L xs 126 78 (.inr (.inr 2)) := zr_2 d126_78 rfl
theorem vt126 (L : Nat) (xs : Nat → Int32) : zAll (fun x => zVal L xs 126 x.1 x.2) (tb126) := ⟨v126_0 L xs, v126_1 L xs, v126_3 L xs, v126_4 L xs, v126_6 L xs, v126_8 L xs, v126_9 L xs, v126_12 L xs, v126_13 L xs, v126_16 L xs, v126_18 L xs, v126_19 L xs, v126_21 L xs, v126_22 L xs, v126_25 L xs, v126_27 L xs, v126_30 L xs, v126_31 L xs, v126_32 L xs, v126_34 L xs, v126_35 L xs, v126_36 L xs, v126_37 L xs, v126_40 L xs, v126_42 L xs, v126_45 L xs, v126_46 L xs, v126_47 L xs, v126_48 L xs, v126_50 L xs, v126_53 L xs, v126_54 L xs, v126_57 L xs, v126_59 L xs, v126_60 L xs, v126_63 L xs, v126_64 L xs, v126_67 L xs, v126_68 L xs, v126_70 L xs, v126_73 L xs, v126_76 L xs, v126_78 L xs, trivial⟩
theorem d127_0 : decode (mB 127) 0 = .ok (.iload 4, 2) := by decide +kernel
theorem d127_2 : decode (mB 127) 2 = .ok (.istore 5, 2) := by decide +kernel
theorem d127_4 : decode (mB 127) 4 = .ok (.iload 5, 2) := by decide +kernel
theorem d127_6 : decode (mB 127) 6 = .ok (.ifCond .lt 167, 3) := by decide +kernel
theorem d127_9 : decode (mB 127) 9 = .ok (.iload_n 2, 1) := by decide +kernel
theorem d127_10 : decode (mB 127) 10 = .ok (.istore 6, 2) := by decide +kernel
theorem d127_12 : decode (mB 127) 12 = .ok (.iload 6, 2) := by decide +kernel
theorem d127_14 : decode (mB 127) 14 = .ok (.iload_n 3, 1) := by decide +kernel
theorem d127_15 : decode (mB 127) 15 = .ok (.if_icmp .gt 152, 3) := by decide +kernel
theorem d127_18 : decode (mB 127) 18 = .ok (.iload 5, 2) := by decide +kernel
theorem d127_20 : decode (mB 127) 20 = .ok (.iload 4, 2) := by decide +kernel
theorem d127_22 : decode (mB 127) 22 = .ok (.if_icmp .ne 13, 3) := by decide +kernel
theorem d127_25 : decode (mB 127) 25 = .ok (.iload 6, 2) := by decide +kernel
theorem d127_27 : decode (mB 127) 27 = .ok (.iload_n 3, 1) := by decide +kernel
theorem d127_28 : decode (mB 127) 28 = .ok (.if_icmp .ne 7, 3) := by decide +kernel
theorem d127_31 : decode (mB 127) 31 = .ok (.iconst 1, 1) := by decide +kernel
theorem d127_32 : decode (mB 127) 32 = .ok (.goto 4, 3) := by decide +kernel
theorem d127_35 : decode (mB 127) 35 = .ok (.iconst 0, 1) := by decide +kernel
theorem d127_36 : decode (mB 127) 36 = .ok (.istore 7, 2) := by decide +kernel
theorem d127_38 : decode (mB 127) 38 = .ok (.iconst 0, 1) := by decide +kernel
theorem d127_39 : decode (mB 127) 39 = .ok (.istore 8, 2) := by decide +kernel
theorem d127_41 : decode (mB 127) 41 = .ok (.iload 5, 2) := by decide +kernel
theorem d127_43 : decode (mB 127) 43 = .ok (.iload 4, 2) := by decide +kernel
theorem d127_45 : decode (mB 127) 45 = .ok (.if_icmp .ge 101, 3) := by decide +kernel
theorem d127_48 : decode (mB 127) 48 = .ok (.iload 8, 2) := by decide +kernel
theorem d127_50 : decode (mB 127) 50 = .ok (.aload_n 0, 1) := by decide +kernel
theorem d127_51 : decode (mB 127) 51 = .ok (.getfield 102, 3) := by decide +kernel
theorem d127_54 : decode (mB 127) 54 = .ok (.iload 5, 2) := by decide +kernel
theorem d127_56 : decode (mB 127) 56 = .ok (.iaload, 1) := by decide +kernel
theorem d127_57 : decode (mB 127) 57 = .ok (.if_icmp .gt 89, 3) := by decide +kernel
theorem d127_60 : decode (mB 127) 60 = .ok (.iload 6, 2) := by decide +kernel
theorem d127_62 : decode (mB 127) 62 = .ok (.iload 8, 2) := by decide +kernel
theorem d127_64 : decode (mB 127) 64 = .ok (.iadd, 1) := by decide +kernel
theorem d127_65 : decode (mB 127) 65 = .ok (.iload_n 3, 1) := by decide +kernel
theorem d127_66 : decode (mB 127) 66 = .ok (.if_icmp .gt 80, 3) := by decide +kernel
theorem d127_69 : decode (mB 127) 69 = .ok (.iload 6, 2) := by decide +kernel
theorem d127_71 : decode (mB 127) 71 = .ok (.iload 8, 2) := by decide +kernel
theorem d127_73 : decode (mB 127) 73 = .ok (.iadd, 1) := by decide +kernel
theorem d127_74 : decode (mB 127) 74 = .ok (.istore 9, 2) := by decide +kernel
theorem d127_76 : decode (mB 127) 76 = .ok (.iload 9, 2) := by decide +kernel
theorem d127_78 : decode (mB 127) 78 = .ok (.iload_n 2, 1) := by decide +kernel
theorem d127_79 : decode (mB 127) 79 = .ok (.if_icmp .eq 19, 3) := by decide +kernel
theorem d127_82 : decode (mB 127) 82 = .ok (.iload 9, 2) := by decide +kernel
theorem d127_84 : decode (mB 127) 84 = .ok (.iload_n 3, 1) := by decide +kernel
theorem d127_85 : decode (mB 127) 85 = .ok (.if_icmp .eq 13, 3) := by decide +kernel
theorem d127_88 : decode (mB 127) 88 = .ok (.aload_n 0, 1) := by decide +kernel
theorem d127_89 : decode (mB 127) 89 = .ok (.iload_n 1, 1) := by decide +kernel
theorem d127_90 : decode (mB 127) 90 = .ok (.iload 9, 2) := by decide +kernel
theorem d127_92 : decode (mB 127) 92 = .ok (.invokevirtual 215, 3) := by decide +kernel
theorem d127_95 : decode (mB 127) 95 = .ok (.ifCond .ne 7, 3) := by decide +kernel
theorem d127_98 : decode (mB 127) 98 = .ok (.iconst 1, 1) := by decide +kernel
theorem d127_99 : decode (mB 127) 99 = .ok (.goto 4, 3) := by decide +kernel
theorem d127_102 : decode (mB 127) 102 = .ok (.iconst 0, 1) := by decide +kernel
theorem d127_103 : decode (mB 127) 103 = .ok (.istore 10, 2) := by decide +kernel
theorem d127_105 : decode (mB 127) 105 = .ok (.iload 7, 2) := by decide +kernel
theorem d127_107 : decode (mB 127) 107 = .ok (.ifCond .ne 26, 3) := by decide +kernel
theorem d127_110 : decode (mB 127) 110 = .ok (.iload 10, 2) := by decide +kernel
theorem d127_112 : decode (mB 127) 112 = .ok (.ifCond .eq 25, 3) := by decide +kernel
theorem d127_115 : decode (mB 127) 115 = .ok (.aload_n 0, 1) := by decide +kernel
theorem d127_116 : decode (mB 127) 116 = .ok (.getfield 108, 3) := by decide +kernel
theorem d127_119 : decode (mB 127) 119 = .ok (.bipush 41, 2) := by decide +kernel
theorem d127_121 : decode (mB 127) 121 = .ok (.iload 5, 2) := by decide +kernel
theorem d127_123 : decode (mB 127) 123 = .ok (.iconst 1, 1) := by decide +kernel
theorem d127_124 : decode (mB 127) 124 = .ok (.iadd, 1) := by decide +kernel
theorem d127_125 : decode (mB 127) 125 = .ok (.imul, 1) := by decide +kernel
theorem d127_126 : decode (mB 127) 126 = .ok (.iload 9, 2) := by decide +kernel
theorem d127_128 : decode (mB 127) 128 = .ok (.iadd, 1) := by decide +kernel
theorem d127_129 : decode (mB 127) 129 = .ok (.baload, 1) := by decide +kernel
theorem d127_130 : decode (mB 127) 130 = .ok (.ifCond .eq 7, 3) := by decide +kernel
theorem d127_133 : decode (mB 127) 133 = .ok (.iconst 1, 1) := by decide +kernel
theorem d127_134 : decode (mB 127) 134 = .ok (.goto 4, 3) := by decide +kernel
theorem d127_137 : decode (mB 127) 137 = .ok (.iconst 0, 1) := by decide +kernel
theorem d127_138 : decode (mB 127) 138 = .ok (.istore 7, 2) := by decide +kernel
theorem d127_140 : decode (mB 127) 140 = .ok (.iinc 8 1, 3) := by decide +kernel
theorem d127_143 : decode (mB 127) 143 = .ok (.goto (-102), 3) := by decide +kernel
theorem d127_146 : decode (mB 127) 146 = .ok (.aload_n 0, 1) := by decide +kernel
theorem d127_147 : decode (mB 127) 147 = .ok (.getfield 108, 3) := by decide +kernel
theorem d127_150 : decode (mB 127) 150 = .ok (.bipush 41, 2) := by decide +kernel
theorem d127_152 : decode (mB 127) 152 = .ok (.iload 5, 2) := by decide +kernel
theorem d127_154 : decode (mB 127) 154 = .ok (.imul, 1) := by decide +kernel
theorem d127_155 : decode (mB 127) 155 = .ok (.iload 6, 2) := by decide +kernel
theorem d127_157 : decode (mB 127) 157 = .ok (.iadd, 1) := by decide +kernel
theorem d127_158 : decode (mB 127) 158 = .ok (.iload 7, 2) := by decide +kernel
theorem d127_160 : decode (mB 127) 160 = .ok (.bastore, 1) := by decide +kernel
theorem d127_161 : decode (mB 127) 161 = .ok (.iinc 6 1, 3) := by decide +kernel
theorem d127_164 : decode (mB 127) 164 = .ok (.goto (-152), 3) := by decide +kernel
theorem d127_167 : decode (mB 127) 167 = .ok (.iinc 5 (-1), 3) := by decide +kernel
theorem d127_170 : decode (mB 127) 170 = .ok (.goto (-166), 3) := by decide +kernel
theorem d127_173 : decode (mB 127) 173 = .ok (.iload_n 2, 1) := by decide +kernel
theorem d127_174 : decode (mB 127) 174 = .ok (.istore 5, 2) := by decide +kernel
theorem d127_176 : decode (mB 127) 176 = .ok (.iconst 0, 1) := by decide +kernel
theorem d127_177 : decode (mB 127) 177 = .ok (.istore 6, 2) := by decide +kernel
theorem d127_179 : decode (mB 127) 179 = .ok (.iload 6, 2) := by decide +kernel
theorem d127_181 : decode (mB 127) 181 = .ok (.iload 4, 2) := by decide +kernel
theorem d127_183 : decode (mB 127) 183 = .ok (.if_icmp .ge 146, 3) := by decide +kernel
theorem d127_186 : decode (mB 127) 186 = .ok (.aload_n 0, 1) := by decide +kernel
theorem d127_187 : decode (mB 127) 187 = .ok (.getfield 108, 3) := by decide +kernel
theorem d127_190 : decode (mB 127) 190 = .ok (.iload_n 2, 1) := by decide +kernel
theorem d127_191 : decode (mB 127) 191 = .ok (.baload, 1) := by decide +kernel
theorem d127_192 : decode (mB 127) 192 = .ok (.ifCond .eq 137, 3) := by decide +kernel
theorem d127_195 : decode (mB 127) 195 = .ok (.aload_n 0, 1) := by decide +kernel
theorem d127_196 : decode (mB 127) 196 = .ok (.getfield 105, 3) := by decide +kernel
theorem d127_199 : decode (mB 127) 199 = .ok (.iload 6, 2) := by decide +kernel
theorem d127_201 : decode (mB 127) 201 = .ok (.iconst 0, 1) := by decide +kernel
theorem d127_202 : decode (mB 127) 202 = .ok (.iastore, 1) := by decide +kernel
theorem d127_203 : decode (mB 127) 203 = .ok (.iconst 0, 1) := by decide +kernel
theorem d127_204 : decode (mB 127) 204 = .ok (.istore 7, 2) := by decide +kernel
theorem d127_206 : decode (mB 127) 206 = .ok (.iload 7, 2) := by decide +kernel
theorem d127_208 : decode (mB 127) 208 = .ok (.aload_n 0, 1) := by decide +kernel
theorem d127_209 : decode (mB 127) 209 = .ok (.getfield 102, 3) := by decide +kernel
theorem d127_212 : decode (mB 127) 212 = .ok (.iload 6, 2) := by decide +kernel
theorem d127_214 : decode (mB 127) 214 = .ok (.iaload, 1) := by decide +kernel
theorem d127_215 : decode (mB 127) 215 = .ok (.if_icmp .gt 96, 3) := by decide +kernel
theorem d127_218 : decode (mB 127) 218 = .ok (.iload 5, 2) := by decide +kernel
theorem d127_220 : decode (mB 127) 220 = .ok (.iload 7, 2) := by decide +kernel
theorem d127_222 : decode (mB 127) 222 = .ok (.iadd, 1) := by decide +kernel
theorem d127_223 : decode (mB 127) 223 = .ok (.iload_n 3, 1) := by decide +kernel
theorem d127_224 : decode (mB 127) 224 = .ok (.if_icmp .gt 87, 3) := by decide +kernel
theorem d127_227 : decode (mB 127) 227 = .ok (.iload 5, 2) := by decide +kernel
theorem d127_229 : decode (mB 127) 229 = .ok (.iload 7, 2) := by decide +kernel
theorem d127_231 : decode (mB 127) 231 = .ok (.iadd, 1) := by decide +kernel
theorem d127_232 : decode (mB 127) 232 = .ok (.istore 8, 2) := by decide +kernel
theorem d127_234 : decode (mB 127) 234 = .ok (.iload 8, 2) := by decide +kernel
theorem d127_236 : decode (mB 127) 236 = .ok (.iload_n 2, 1) := by decide +kernel
theorem d127_237 : decode (mB 127) 237 = .ok (.if_icmp .eq 19, 3) := by decide +kernel
theorem d127_240 : decode (mB 127) 240 = .ok (.iload 8, 2) := by decide +kernel
theorem d127_242 : decode (mB 127) 242 = .ok (.iload_n 3, 1) := by decide +kernel
theorem d127_243 : decode (mB 127) 243 = .ok (.if_icmp .eq 13, 3) := by decide +kernel
theorem d127_246 : decode (mB 127) 246 = .ok (.aload_n 0, 1) := by decide +kernel
theorem d127_247 : decode (mB 127) 247 = .ok (.iload_n 1, 1) := by decide +kernel
theorem d127_248 : decode (mB 127) 248 = .ok (.iload 8, 2) := by decide +kernel
theorem d127_250 : decode (mB 127) 250 = .ok (.invokevirtual 215, 3) := by decide +kernel
theorem d127_253 : decode (mB 127) 253 = .ok (.ifCond .ne 7, 3) := by decide +kernel
theorem d127_256 : decode (mB 127) 256 = .ok (.iconst 1, 1) := by decide +kernel
theorem d127_257 : decode (mB 127) 257 = .ok (.goto 4, 3) := by decide +kernel
theorem d127_260 : decode (mB 127) 260 = .ok (.iconst 0, 1) := by decide +kernel
theorem d127_261 : decode (mB 127) 261 = .ok (.istore 9, 2) := by decide +kernel
theorem d127_263 : decode (mB 127) 263 = .ok (.aload_n 0, 1) := by decide +kernel
theorem d127_264 : decode (mB 127) 264 = .ok (.getfield 105, 3) := by decide +kernel
theorem d127_267 : decode (mB 127) 267 = .ok (.iload 6, 2) := by decide +kernel
theorem d127_269 : decode (mB 127) 269 = .ok (.iload 9, 2) := by decide +kernel
theorem d127_271 : decode (mB 127) 271 = .ok (.ifCond .eq 26, 3) := by decide +kernel
theorem d127_274 : decode (mB 127) 274 = .ok (.aload_n 0, 1) := by decide +kernel
theorem d127_275 : decode (mB 127) 275 = .ok (.getfield 108, 3) := by decide +kernel
theorem d127_278 : decode (mB 127) 278 = .ok (.bipush 41, 2) := by decide +kernel
theorem d127_280 : decode (mB 127) 280 = .ok (.iload 6, 2) := by decide +kernel
theorem d127_282 : decode (mB 127) 282 = .ok (.iconst 1, 1) := by decide +kernel
theorem d127_283 : decode (mB 127) 283 = .ok (.iadd, 1) := by decide +kernel
theorem d127_284 : decode (mB 127) 284 = .ok (.imul, 1) := by decide +kernel
theorem d127_285 : decode (mB 127) 285 = .ok (.iload 8, 2) := by decide +kernel
theorem d127_287 : decode (mB 127) 287 = .ok (.iadd, 1) := by decide +kernel
theorem d127_288 : decode (mB 127) 288 = .ok (.baload, 1) := by decide +kernel
theorem d127_289 : decode (mB 127) 289 = .ok (.ifCond .eq 8, 3) := by decide +kernel
theorem d127_292 : decode (mB 127) 292 = .ok (.iload 7, 2) := by decide +kernel
theorem d127_294 : decode (mB 127) 294 = .ok (.goto 10, 3) := by decide +kernel
theorem d127_297 : decode (mB 127) 297 = .ok (.aload_n 0, 1) := by decide +kernel
theorem d127_298 : decode (mB 127) 298 = .ok (.getfield 105, 3) := by decide +kernel
theorem d127_301 : decode (mB 127) 301 = .ok (.iload 6, 2) := by decide +kernel
theorem d127_303 : decode (mB 127) 303 = .ok (.iaload, 1) := by decide +kernel
theorem d127_304 : decode (mB 127) 304 = .ok (.iastore, 1) := by decide +kernel
theorem d127_305 : decode (mB 127) 305 = .ok (.iinc 7 1, 3) := by decide +kernel
theorem d127_308 : decode (mB 127) 308 = .ok (.goto (-102), 3) := by decide +kernel
theorem d127_311 : decode (mB 127) 311 = .ok (.iload 5, 2) := by decide +kernel
theorem d127_313 : decode (mB 127) 313 = .ok (.aload_n 0, 1) := by decide +kernel
theorem d127_314 : decode (mB 127) 314 = .ok (.getfield 105, 3) := by decide +kernel
theorem d127_317 : decode (mB 127) 317 = .ok (.iload 6, 2) := by decide +kernel
theorem d127_319 : decode (mB 127) 319 = .ok (.iaload, 1) := by decide +kernel
theorem d127_320 : decode (mB 127) 320 = .ok (.iadd, 1) := by decide +kernel
theorem d127_321 : decode (mB 127) 321 = .ok (.istore 5, 2) := by decide +kernel
theorem d127_323 : decode (mB 127) 323 = .ok (.iinc 6 1, 3) := by decide +kernel
theorem d127_326 : decode (mB 127) 326 = .ok (.goto (-147), 3) := by decide +kernel
theorem d127_329 : decode (mB 127) 329 = .ok (.aload_n 0, 1) := by decide +kernel
theorem d127_330 : decode (mB 127) 330 = .ok (.getfield 108, 3) := by decide +kernel
theorem d127_333 : decode (mB 127) 333 = .ok (.iload_n 2, 1) := by decide +kernel
theorem d127_334 : decode (mB 127) 334 = .ok (.baload, 1) := by decide +kernel
theorem d127_335 : decode (mB 127) 335 = .ok (.ireturn, 1) := by decide +kernel
theorem v127_0 (L : Nat) (xs : Nat → Int32) : zVal L xs 127 0 (.inl (i_il 4 2)) := zS_iload d127_0
theorem v127_2 (L : Nat) (xs : Nat → Int32) : zVal L xs 127 2 (.inl (i_is 5 4)) := zS_istore d127_2
theorem v127_4 (L : Nat) (xs : Nat → Int32) : zVal L xs 127 4 (.inl (i_k [false, false, false, false, false, false, true, true, true, true, true] (i_il 5 6))) := zS_k (zS_iload d127_4)
theorem v127_6 (L : Nat) (xs : Nat → Int32) : zVal L xs 127 6 (.inl (i_f1 (fun x => decide (x < 0)) 173 9)) := zS_if_lt d127_6 (by decide)
theorem v127_9 (L : Nat) (xs : Nat → Int32) : zVal L xs 127 9 (.inl (i_il 2 10)) := zS_iload_n d127_9 rfl
theorem v127_10 (L : Nat) (xs : Nat → Int32) : zVal L xs 127 10 (.inl (i_is 6 12)) := zS_istore d127_10
theorem v127_12 (L : Nat) (xs : Nat → Int32) : zVal L xs 127 12 (.inl (i_k [false, false, false, false, false, false, false, true, true, true, true] (i_il 6 14))) := zS_k (zS_iload d127_12)
theorem v127_14 (L : Nat) (xs : Nat → Int32) : zVal L xs 127 14 (.inl (i_il 3 15)) := zS_iload_n d127_14 rfl
theorem v127_15 (L : Nat) (xs : Nat → Int32) : zVal L xs 127 15 (.inl (i_f2 (fun x y => decide (y < x)) 167 18)) := zS_icmp_gt d127_15 (by decide)
theorem v127_18 (L : Nat) (xs : Nat → Int32) : zVal L xs 127 18 (.inl (i_il 5 20)) := zS_iload d127_18
theorem v127_20 (L : Nat) (xs : Nat → Int32) : zVal L xs 127 20 (.inl (i_il 4 22)) := zS_iload d127_20
theorem v127_22 (L : Nat) (xs : Nat → Int32) : zVal L xs 127 22 (.inl (i_f2 (fun x y => decide (¬ x = y)) 35 25)) := zS_icmp_ne d127_22 (by decide)
theorem v127_25 (L : Nat) (xs : Nat → Int32) : zVal L xs 127 25 (.inl (i_il 6 27)) := zS_iload d127_25
theorem v127_27 (L : Nat) (xs : Nat → Int32) : zVal L xs 127 27 (.inl (i_il 3 28)) := zS_iload_n d127_27 rfl
theorem v127_28 (L : Nat) (xs : Nat → Int32) : zVal L xs 127 28 (.inl (i_f2 (fun x y => decide (¬ x = y)) 35 31)) := zS_icmp_ne d127_28 (by decide)
theorem v127_31 (L : Nat) (xs : Nat → Int32) : zVal L xs 127 31 (.inl (i_c (.int 1) 32)) := zS_iconst d127_31 (by decide)
theorem v127_32 (L : Nat) (xs : Nat → Int32) : zVal L xs 127 32 (.inl (i_go 36)) := zS_goto d127_32 (by decide)
theorem v127_35 (L : Nat) (xs : Nat → Int32) : zVal L xs 127 35 (.inl (i_k [false, false, false, false, false, false, false, true, true, true, true] (i_c (.int 0) 36))) := zS_k (zS_iconst d127_35 (by decide))
theorem v127_36 (L : Nat) (xs : Nat → Int32) : zVal L xs 127 36 (.inl (i_k [false, false, false, false, false, false, false, true, true, true, true] (i_is 7 38))) := zS_k (zS_istore d127_36)
theorem v127_38 (L : Nat) (xs : Nat → Int32) : zVal L xs 127 38 (.inl (i_c (.int 0) 39)) := zS_iconst d127_38 (by decide)
theorem v127_39 (L : Nat) (xs : Nat → Int32) : zVal L xs 127 39 (.inl (i_is 8 41)) := zS_istore d127_39
theorem v127_41 (L : Nat) (xs : Nat → Int32) : zVal L xs 127 41 (.inl (i_k [false, false, false, false, false, false, false, false, false, true, true] (i_il 5 43))) := zS_k (zS_iload d127_41)
theorem v127_43 (L : Nat) (xs : Nat → Int32) : zVal L xs 127 43 (.inl (i_il 4 45)) := zS_iload d127_43
theorem v127_45 (L : Nat) (xs : Nat → Int32) : zVal L xs 127 45 (.inl (i_f2 (fun x y => decide (y ≤ x)) 146 48)) := zS_icmp_ge d127_45 (by decide)
theorem v127_48 (L : Nat) (xs : Nat → Int32) : zVal L xs 127 48 (.inl (i_il 8 50)) := zS_iload d127_48
theorem v127_50 (L : Nat) (xs : Nat → Int32) : zVal L xs 127 50 (.inl (i_al 0 51)) := zS_aload_n d127_50 rfl
theorem v127_51 (L : Nat) (xs : Nat → Int32) : zVal L xs 127 51 (.inl (i_gf 10 38 54)) := zS_getf d127_51 (zcl10) (by decide) zi10 w816
theorem v127_54 (L : Nat) (xs : Nat → Int32) : zVal L xs 127 54 (.inl (i_il 5 56)) := zS_iload d127_54
theorem v127_56 (L : Nat) (xs : Nat → Int32) : zVal L xs 127 56 (.inl (i_ga 0 57)) := zS_iald d127_56
theorem v127_57 (L : Nat) (xs : Nat → Int32) : zVal L xs 127 57 (.inl (i_f2 (fun x y => decide (y < x)) 146 60)) := zS_icmp_gt d127_57 (by decide)
theorem v127_60 (L : Nat) (xs : Nat → Int32) : zVal L xs 127 60 (.inl (i_il 6 62)) := zS_iload d127_60
theorem v127_62 (L : Nat) (xs : Nat → Int32) : zVal L xs 127 62 (.inl (i_il 8 64)) := zS_iload d127_62
theorem v127_64 (L : Nat) (xs : Nat → Int32) : zVal L xs 127 64 (.inl (i_bi (fun x y => x + y) 65)) := zS_iadd d127_64
theorem v127_65 (L : Nat) (xs : Nat → Int32) : zVal L xs 127 65 (.inl (i_il 3 66)) := zS_iload_n d127_65 rfl
theorem v127_66 (L : Nat) (xs : Nat → Int32) : zVal L xs 127 66 (.inl (i_f2 (fun x y => decide (y < x)) 146 69)) := zS_icmp_gt d127_66 (by decide)
theorem v127_69 (L : Nat) (xs : Nat → Int32) : zVal L xs 127 69 (.inl (i_il 6 71)) := zS_iload d127_69
theorem v127_71 (L : Nat) (xs : Nat → Int32) : zVal L xs 127 71 (.inl (i_il 8 73)) := zS_iload d127_71
theorem v127_73 (L : Nat) (xs : Nat → Int32) : zVal L xs 127 73 (.inl (i_bi (fun x y => x + y) 74)) := zS_iadd d127_73
theorem v127_74 (L : Nat) (xs : Nat → Int32) : zVal L xs 127 74 (.inl (i_is 9 76)) := zS_istore d127_74
theorem v127_76 (L : Nat) (xs : Nat → Int32) : zVal L xs 127 76 (.inl (i_il 9 78)) := zS_iload d127_76
theorem v127_78 (L : Nat) (xs : Nat → Int32) : zVal L xs 127 78 (.inl (i_il 2 79)) := zS_iload_n d127_78 rfl
theorem v127_79 (L : Nat) (xs : Nat → Int32) : zVal L xs 127 79 (.inl (i_f2 (fun x y => decide (x = y)) 98 82)) := zS_icmp_eq d127_79 (by decide)
theorem v127_82 (L : Nat) (xs : Nat → Int32) : zVal L xs 127 82 (.inl (i_il 9 84)) := zS_iload d127_82
theorem v127_84 (L : Nat) (xs : Nat → Int32) : zVal L xs 127 84 (.inl (i_il 3 85)) := zS_iload_n d127_84 rfl
theorem v127_85 (L : Nat) (xs : Nat → Int32) : zVal L xs 127 85 (.inl (i_f2 (fun x y => decide (x = y)) 98 88)) := zS_icmp_eq d127_85 (by decide)
theorem v127_88 (L : Nat) (xs : Nat → Int32) : zVal L xs 127 88 (.inl (i_al 0 89)) := zS_aload_n d127_88 rfl
theorem v127_89 (L : Nat) (xs : Nat → Int32) : zVal L xs 127 89 (.inl (i_il 1 90)) := zS_iload_n d127_89 rfl
theorem v127_90 (L : Nat) (xs : Nat → Int32) : zVal L xs 127 90 (.inl (i_il 9 92)) := zS_iload d127_90
theorem v127_92 (L : Nat) (xs : Nat → Int32) : zVal L xs 127 92 (.inr (.inl (125, 3, 11))) := ⟨by decide +kernel, by decide +kernel, zc_virt d127_92 zcl10 w1047 w1044 w1046 w56 w85 ⟨by decide +kernel, by decide +kernel, by decide +kernel⟩ (by decide) (by decide)⟩
theorem v127_95 (L : Nat) (xs : Nat → Int32) : zVal L xs 127 95 (.inl (i_f1 (fun x => decide (¬ x = 0)) 102 98)) := zS_if_ne d127_95 (by decide)
theorem v127_98 (L : Nat) (xs : Nat → Int32) : zVal L xs 127 98 (.inl (i_k [false, false, false, false, false, false, false, false, false, false, true] (i_c (.int 1) 99))) := zS_k (zS_iconst d127_98 (by decide))
theorem v127_99 (L : Nat) (xs : Nat → Int32) : zVal L xs 127 99 (.inl (i_go 103)) := zS_goto d127_99 (by decide)
theorem v127_102 (L : Nat) (xs : Nat → Int32) : zVal L xs 127 102 (.inl (i_c (.int 0) 103)) := zS_iconst d127_102 (by decide)
theorem v127_103 (L : Nat) (xs : Nat → Int32) : zVal L xs 127 103 (.inl (i_k [false, false, false, false, false, false, false, false, false, false, true] (i_is 10 105))) := zS_k (zS_istore d127_103)
theorem v127_105 (L : Nat) (xs : Nat → Int32) : zVal L xs 127 105 (.inl (i_il 7 107)) := zS_iload d127_105
theorem v127_107 (L : Nat) (xs : Nat → Int32) : zVal L xs 127 107 (.inl (i_f1 (fun x => decide (¬ x = 0)) 133 110)) := zS_if_ne d127_107 (by decide)
theorem v127_110 (L : Nat) (xs : Nat → Int32) : zVal L xs 127 110 (.inl (i_il 10 112)) := zS_iload d127_110
theorem v127_112 (L : Nat) (xs : Nat → Int32) : zVal L xs 127 112 (.inl (i_f1 (fun x => decide (x = 0)) 137 115)) := zS_if_eq d127_112 (by decide)
theorem v127_115 (L : Nat) (xs : Nat → Int32) : zVal L xs 127 115 (.inl (i_al 0 116)) := zS_aload_n d127_115 rfl
theorem v127_116 (L : Nat) (xs : Nat → Int32) : zVal L xs 127 116 (.inl (i_gf 10 40 119)) := zS_getf d127_116 (zcl10) (by decide) zi10 w818
theorem v127_119 (L : Nat) (xs : Nat → Int32) : zVal L xs 127 119 (.inl (i_c (.int 41) 121)) := zS_bipush d127_119 (by decide)
theorem v127_121 (L : Nat) (xs : Nat → Int32) : zVal L xs 127 121 (.inl (i_il 5 123)) := zS_iload d127_121
theorem v127_123 (L : Nat) (xs : Nat → Int32) : zVal L xs 127 123 (.inl (i_c (.int 1) 124)) := zS_iconst d127_123 (by decide)
theorem v127_124 (L : Nat) (xs : Nat → Int32) : zVal L xs 127 124 (.inl (i_bi (fun x y => x + y) 125)) := zS_iadd d127_124
theorem v127_125 (L : Nat) (xs : Nat → Int32) : zVal L xs 127 125 (.inl (i_bi (fun x y => x * y) 126)) := zS_imul d127_125
theorem v127_126 (L : Nat) (xs : Nat → Int32) : zVal L xs 127 126 (.inl (i_il 9 128)) := zS_iload d127_126
theorem v127_128 (L : Nat) (xs : Nat → Int32) : zVal L xs 127 128 (.inl (i_bi (fun x y => x + y) 129)) := zS_iadd d127_128
theorem v127_129 (L : Nat) (xs : Nat → Int32) : zVal L xs 127 129 (.inl (i_ga 3 130)) := zS_zald d127_129
theorem v127_130 (L : Nat) (xs : Nat → Int32) : zVal L xs 127 130 (.inl (i_f1 (fun x => decide (x = 0)) 137 133)) := zS_if_eq d127_130 (by decide)
theorem v127_133 (L : Nat) (xs : Nat → Int32) : zVal L xs 127 133 (.inl (i_k [false, false, false, false, false, false, false, true, false, true, true] (i_c (.int 1) 134))) := zS_k (zS_iconst d127_133 (by decide))
theorem v127_134 (L : Nat) (xs : Nat → Int32) : zVal L xs 127 134 (.inl (i_go 138)) := zS_goto d127_134 (by decide)
theorem v127_137 (L : Nat) (xs : Nat → Int32) : zVal L xs 127 137 (.inl (i_k [false, false, false, false, false, false, false, true, false, true, true] (i_c (.int 0) 138))) := zS_k (zS_iconst d127_137 (by decide))
theorem v127_138 (L : Nat) (xs : Nat → Int32) : zVal L xs 127 138 (.inl (i_k [false, false, false, false, false, false, false, true, false, true, true] (i_is 7 140))) := zS_k (zS_istore d127_138)
theorem v127_140 (L : Nat) (xs : Nat → Int32) : zVal L xs 127 140 (.inl (i_in 8 1 143)) := zS_iinc d127_140 (by decide)
theorem v127_143 (L : Nat) (xs : Nat → Int32) : zVal L xs 127 143 (.inl (i_go 41)) := zS_goto d127_143 (by decide)
theorem v127_146 (L : Nat) (xs : Nat → Int32) : zVal L xs 127 146 (.inl (i_k [false, false, false, false, false, false, false, false, true, true, true] (i_al 0 147))) := zS_k (zS_aload_n d127_146 rfl)
theorem v127_147 (L : Nat) (xs : Nat → Int32) : zVal L xs 127 147 (.inl (i_gf 10 40 150)) := zS_getf d127_147 (zcl10) (by decide) zi10 w818
theorem v127_150 (L : Nat) (xs : Nat → Int32) : zVal L xs 127 150 (.inl (i_c (.int 41) 152)) := zS_bipush d127_150 (by decide)
theorem v127_152 (L : Nat) (xs : Nat → Int32) : zVal L xs 127 152 (.inl (i_il 5 154)) := zS_iload d127_152
theorem v127_154 (L : Nat) (xs : Nat → Int32) : zVal L xs 127 154 (.inl (i_bi (fun x y => x * y) 155)) := zS_imul d127_154
theorem v127_155 (L : Nat) (xs : Nat → Int32) : zVal L xs 127 155 (.inl (i_il 6 157)) := zS_iload d127_155
theorem v127_157 (L : Nat) (xs : Nat → Int32) : zVal L xs 127 157 (.inl (i_bi (fun x y => x + y) 158)) := zS_iadd d127_157
theorem v127_158 (L : Nat) (xs : Nat → Int32) : zVal L xs 127 158 (.inl (i_il 7 160)) := zS_iload d127_158
theorem v127_160 (L : Nat) (xs : Nat → Int32) : zVal L xs 127 160 (.inl (i_pa 3 (vp_nar .boolean) 161)) := zS_zast d127_160
theorem v127_161 (L : Nat) (xs : Nat → Int32) : zVal L xs 127 161 (.inl (i_in 6 1 164)) := zS_iinc d127_161 (by decide)
theorem v127_164 (L : Nat) (xs : Nat → Int32) : zVal L xs 127 164 (.inl (i_go 12)) := zS_goto d127_164 (by decide)
theorem v127_167 (L : Nat) (xs : Nat → Int32) : zVal L xs 127 167 (.inl (i_in 5 (-1) 170)) := zS_iinc d127_167 (by decide)
theorem v127_170 (L : Nat) (xs : Nat → Int32) : zVal L xs 127 170 (.inl (i_go 4)) := zS_goto d127_170 (by decide)
theorem v127_173 (L : Nat) (xs : Nat → Int32) : zVal L xs 127 173 (.inl (i_il 2 174)) := zS_iload_n d127_173 rfl
theorem v127_174 (L : Nat) (xs : Nat → Int32) : zVal L xs 127 174 (.inl (i_is 5 176)) := zS_istore d127_174
theorem v127_176 (L : Nat) (xs : Nat → Int32) : zVal L xs 127 176 (.inl (i_c (.int 0) 177)) := zS_iconst d127_176 (by decide)
theorem v127_177 (L : Nat) (xs : Nat → Int32) : zVal L xs 127 177 (.inl (i_is 6 179)) := zS_istore d127_177
theorem v127_179 (L : Nat) (xs : Nat → Int32) : zVal L xs 127 179 (.inl (i_k [false, false, false, false, false, false, false, true, true, true, true] (i_il 6 181))) := zS_k (zS_iload d127_179)
theorem v127_181 (L : Nat) (xs : Nat → Int32) : zVal L xs 127 181 (.inl (i_il 4 183)) := zS_iload d127_181
theorem v127_183 (L : Nat) (xs : Nat → Int32) : zVal L xs 127 183 (.inl (i_f2 (fun x y => decide (y ≤ x)) 329 186)) := zS_icmp_ge d127_183 (by decide)
theorem v127_186 (L : Nat) (xs : Nat → Int32) : zVal L xs 127 186 (.inl (i_al 0 187)) := zS_aload_n d127_186 rfl
theorem v127_187 (L : Nat) (xs : Nat → Int32) : zVal L xs 127 187 (.inl (i_gf 10 40 190)) := zS_getf d127_187 (zcl10) (by decide) zi10 w818
theorem v127_190 (L : Nat) (xs : Nat → Int32) : zVal L xs 127 190 (.inl (i_il 2 191)) := zS_iload_n d127_190 rfl
theorem v127_191 (L : Nat) (xs : Nat → Int32) : zVal L xs 127 191 (.inl (i_ga 3 192)) := zS_zald d127_191
theorem v127_192 (L : Nat) (xs : Nat → Int32) : zVal L xs 127 192 (.inl (i_f1 (fun x => decide (x = 0)) 329 195)) := zS_if_eq d127_192 (by decide)
theorem v127_195 (L : Nat) (xs : Nat → Int32) : zVal L xs 127 195 (.inl (i_al 0 196)) := zS_aload_n d127_195 rfl
theorem v127_196 (L : Nat) (xs : Nat → Int32) : zVal L xs 127 196 (.inl (i_gf 10 39 199)) := zS_getf d127_196 (zcl10) (by decide) zi10 w817
theorem v127_199 (L : Nat) (xs : Nat → Int32) : zVal L xs 127 199 (.inl (i_il 6 201)) := zS_iload d127_199
theorem v127_201 (L : Nat) (xs : Nat → Int32) : zVal L xs 127 201 (.inl (i_c (.int 0) 202)) := zS_iconst d127_201 (by decide)
theorem v127_202 (L : Nat) (xs : Nat → Int32) : zVal L xs 127 202 (.inl (i_pa 0 (fun x => x) 203)) := zS_iast d127_202
theorem v127_203 (L : Nat) (xs : Nat → Int32) : zVal L xs 127 203 (.inl (i_c (.int 0) 204)) := zS_iconst d127_203 (by decide)
theorem v127_204 (L : Nat) (xs : Nat → Int32) : zVal L xs 127 204 (.inl (i_is 7 206)) := zS_istore d127_204
theorem v127_206 (L : Nat) (xs : Nat → Int32) : zVal L xs 127 206 (.inl (i_k [false, false, false, false, false, false, false, false, true, true, true] (i_il 7 208))) := zS_k (zS_iload d127_206)
theorem v127_208 (L : Nat) (xs : Nat → Int32) : zVal L xs 127 208 (.inl (i_al 0 209)) := zS_aload_n d127_208 rfl
theorem v127_209 (L : Nat) (xs : Nat → Int32) : zVal L xs 127 209 (.inl (i_gf 10 38 212)) := zS_getf d127_209 (zcl10) (by decide) zi10 w816
theorem v127_212 (L : Nat) (xs : Nat → Int32) : zVal L xs 127 212 (.inl (i_il 6 214)) := zS_iload d127_212
theorem v127_214 (L : Nat) (xs : Nat → Int32) : zVal L xs 127 214 (.inl (i_ga 0 215)) := zS_iald d127_214
theorem v127_215 (L : Nat) (xs : Nat → Int32) : zVal L xs 127 215 (.inl (i_f2 (fun x y => decide (y < x)) 311 218)) := zS_icmp_gt d127_215 (by decide)
theorem v127_218 (L : Nat) (xs : Nat → Int32) : zVal L xs 127 218 (.inl (i_il 5 220)) := zS_iload d127_218
theorem v127_220 (L : Nat) (xs : Nat → Int32) : zVal L xs 127 220 (.inl (i_il 7 222)) := zS_iload d127_220
theorem v127_222 (L : Nat) (xs : Nat → Int32) : zVal L xs 127 222 (.inl (i_bi (fun x y => x + y) 223)) := zS_iadd d127_222
theorem v127_223 (L : Nat) (xs : Nat → Int32) : zVal L xs 127 223 (.inl (i_il 3 224)) := zS_iload_n d127_223 rfl
theorem v127_224 (L : Nat) (xs : Nat → Int32) : zVal L xs 127 224 (.inl (i_f2 (fun x y => decide (y < x)) 311 227)) := zS_icmp_gt d127_224 (by decide)
theorem v127_227 (L : Nat) (xs : Nat → Int32) : zVal L xs 127 227 (.inl (i_il 5 229)) := zS_iload d127_227
theorem v127_229 (L : Nat) (xs : Nat → Int32) : zVal L xs 127 229 (.inl (i_il 7 231)) := zS_iload d127_229
theorem v127_231 (L : Nat) (xs : Nat → Int32) : zVal L xs 127 231 (.inl (i_bi (fun x y => x + y) 232)) := zS_iadd d127_231
theorem v127_232 (L : Nat) (xs : Nat → Int32) : zVal L xs 127 232 (.inl (i_is 8 234)) := zS_istore d127_232
theorem v127_234 (L : Nat) (xs : Nat → Int32) : zVal L xs 127 234 (.inl (i_il 8 236)) := zS_iload d127_234
theorem v127_236 (L : Nat) (xs : Nat → Int32) : zVal L xs 127 236 (.inl (i_il 2 237)) := zS_iload_n d127_236 rfl
theorem v127_237 (L : Nat) (xs : Nat → Int32) : zVal L xs 127 237 (.inl (i_f2 (fun x y => decide (x = y)) 256 240)) := zS_icmp_eq d127_237 (by decide)
theorem v127_240 (L : Nat) (xs : Nat → Int32) : zVal L xs 127 240 (.inl (i_il 8 242)) := zS_iload d127_240
theorem v127_242 (L : Nat) (xs : Nat → Int32) : zVal L xs 127 242 (.inl (i_il 3 243)) := zS_iload_n d127_242 rfl
theorem v127_243 (L : Nat) (xs : Nat → Int32) : zVal L xs 127 243 (.inl (i_f2 (fun x y => decide (x = y)) 256 246)) := zS_icmp_eq d127_243 (by decide)
theorem v127_246 (L : Nat) (xs : Nat → Int32) : zVal L xs 127 246 (.inl (i_al 0 247)) := zS_aload_n d127_246 rfl
theorem v127_247 (L : Nat) (xs : Nat → Int32) : zVal L xs 127 247 (.inl (i_il 1 248)) := zS_iload_n d127_247 rfl
theorem v127_248 (L : Nat) (xs : Nat → Int32) : zVal L xs 127 248 (.inl (i_il 8 250)) := zS_iload d127_248
theorem v127_250 (L : Nat) (xs : Nat → Int32) : zVal L xs 127 250 (.inr (.inl (125, 3, 11))) := ⟨by decide +kernel, by decide +kernel, zc_virt d127_250 zcl10 w1047 w1044 w1046 w56 w85 ⟨by decide +kernel, by decide +kernel, by decide +kernel⟩ (by decide) (by decide)⟩
theorem v127_253 (L : Nat) (xs : Nat → Int32) : zVal L xs 127 253 (.inl (i_f1 (fun x => decide (¬ x = 0)) 260 256)) := zS_if_ne d127_253 (by decide)
theorem v127_256 (L : Nat) (xs : Nat → Int32) : zVal L xs 127 256 (.inl (i_k [false, false, false, false, false, false, false, false, false, true, true] (i_c (.int 1) 257))) := zS_k (zS_iconst d127_256 (by decide))
theorem v127_257 (L : Nat) (xs : Nat → Int32) : zVal L xs 127 257 (.inl (i_go 261)) := zS_goto d127_257 (by decide)
theorem v127_260 (L : Nat) (xs : Nat → Int32) : zVal L xs 127 260 (.inl (i_c (.int 0) 261)) := zS_iconst d127_260 (by decide)
theorem v127_261 (L : Nat) (xs : Nat → Int32) : zVal L xs 127 261 (.inl (i_k [false, false, false, false, false, false, false, false, false, true, true] (i_is 9 263))) := zS_k (zS_istore d127_261)
theorem v127_263 (L : Nat) (xs : Nat → Int32) : zVal L xs 127 263 (.inl (i_al 0 264)) := zS_aload_n d127_263 rfl
theorem v127_264 (L : Nat) (xs : Nat → Int32) : zVal L xs 127 264 (.inl (i_gf 10 39 267)) := zS_getf d127_264 (zcl10) (by decide) zi10 w817
theorem v127_267 (L : Nat) (xs : Nat → Int32) : zVal L xs 127 267 (.inl (i_il 6 269)) := zS_iload d127_267
theorem v127_269 (L : Nat) (xs : Nat → Int32) : zVal L xs 127 269 (.inl (i_il 9 271)) := zS_iload d127_269
theorem v127_271 (L : Nat) (xs : Nat → Int32) : zVal L xs 127 271 (.inl (i_f1 (fun x => decide (x = 0)) 297 274)) := zS_if_eq d127_271 (by decide)
theorem v127_274 (L : Nat) (xs : Nat → Int32) : zVal L xs 127 274 (.inl (i_al 0 275)) := zS_aload_n d127_274 rfl
theorem v127_275 (L : Nat) (xs : Nat → Int32) : zVal L xs 127 275 (.inl (i_gf 10 40 278)) := zS_getf d127_275 (zcl10) (by decide) zi10 w818
theorem v127_278 (L : Nat) (xs : Nat → Int32) : zVal L xs 127 278 (.inl (i_c (.int 41) 280)) := zS_bipush d127_278 (by decide)
theorem v127_280 (L : Nat) (xs : Nat → Int32) : zVal L xs 127 280 (.inl (i_il 6 282)) := zS_iload d127_280
theorem v127_282 (L : Nat) (xs : Nat → Int32) : zVal L xs 127 282 (.inl (i_c (.int 1) 283)) := zS_iconst d127_282 (by decide)
theorem v127_283 (L : Nat) (xs : Nat → Int32) : zVal L xs 127 283 (.inl (i_bi (fun x y => x + y) 284)) := zS_iadd d127_283
theorem v127_284 (L : Nat) (xs : Nat → Int32) : zVal L xs 127 284 (.inl (i_bi (fun x y => x * y) 285)) := zS_imul d127_284
theorem v127_285 (L : Nat) (xs : Nat → Int32) : zVal L xs 127 285 (.inl (i_il 8 287)) := zS_iload d127_285
theorem v127_287 (L : Nat) (xs : Nat → Int32) : zVal L xs 127 287 (.inl (i_bi (fun x y => x + y) 288)) := zS_iadd d127_287
theorem v127_288 (L : Nat) (xs : Nat → Int32) : zVal L xs 127 288 (.inl (i_ga 3 289)) := zS_zald d127_288
theorem v127_289 (L : Nat) (xs : Nat → Int32) : zVal L xs 127 289 (.inl (i_f1 (fun x => decide (x = 0)) 297 292)) := zS_if_eq d127_289 (by decide)
theorem v127_292 (L : Nat) (xs : Nat → Int32) : zVal L xs 127 292 (.inl (i_il 7 294)) := zS_iload d127_292
theorem v127_294 (L : Nat) (xs : Nat → Int32) : zVal L xs 127 294 (.inl (i_go 304)) := zS_goto d127_294 (by decide)
theorem v127_297 (L : Nat) (xs : Nat → Int32) : zVal L xs 127 297 (.inl (i_k [false, false, false, false, false, false, false, false, true, true, true] (i_al 0 298))) := zS_k (zS_aload_n d127_297 rfl)
theorem v127_298 (L : Nat) (xs : Nat → Int32) : zVal L xs 127 298 (.inl (i_gf 10 39 301)) := zS_getf d127_298 (zcl10) (by decide) zi10 w817
theorem v127_301 (L : Nat) (xs : Nat → Int32) : zVal L xs 127 301 (.inl (i_il 6 303)) := zS_iload d127_301
theorem v127_303 (L : Nat) (xs : Nat → Int32) : zVal L xs 127 303 (.inl (i_ga 0 304)) := zS_iald d127_303
theorem v127_304 (L : Nat) (xs : Nat → Int32) : zVal L xs 127 304 (.inl (i_k [false, false, false, false, false, false, false, false, true, true, true] (i_pa 0 (fun x => x) 305))) := zS_k (zS_iast d127_304)
theorem v127_305 (L : Nat) (xs : Nat → Int32) : zVal L xs 127 305 (.inl (i_in 7 1 308)) := zS_iinc d127_305 (by decide)
theorem v127_308 (L : Nat) (xs : Nat → Int32) : zVal L xs 127 308 (.inl (i_go 206)) := zS_goto d127_308 (by decide)
theorem v127_311 (L : Nat) (xs : Nat → Int32) : zVal L xs 127 311 (.inl (i_k [false, false, false, false, false, false, false, true, true, true, true] (i_il 5 313))) := zS_k (zS_iload d127_311)
theorem v127_313 (L : Nat) (xs : Nat → Int32) : zVal L xs 127 313 (.inl (i_al 0 314)) := zS_aload_n d127_313 rfl
theorem v127_314 (L : Nat) (xs : Nat → Int32) : zVal L xs 127 314 (.inl (i_gf 10 39 317)) := zS_getf d127_314 (zcl10) (by decide) zi10 w817
theorem v127_317 (L : Nat) (xs : Nat → Int32) : zVal L xs 127 317 (.inl (i_il 6 319)) := zS_iload d127_317
theorem v127_319 (L : Nat) (xs : Nat → Int32) : zVal L xs 127 319 (.inl (i_ga 0 320)) := zS_iald d127_319
theorem v127_320 (L : Nat) (xs : Nat → Int32) : zVal L xs 127 320 (.inl (i_bi (fun x y => x + y) 321)) := zS_iadd d127_320
theorem v127_321 (L : Nat) (xs : Nat → Int32) : zVal L xs 127 321 (.inl (i_is 5 323)) := zS_istore d127_321
theorem v127_323 (L : Nat) (xs : Nat → Int32) : zVal L xs 127 323 (.inl (i_in 6 1 326)) := zS_iinc d127_323 (by decide)
theorem v127_326 (L : Nat) (xs : Nat → Int32) : zVal L xs 127 326 (.inl (i_go 179)) := zS_goto d127_326 (by decide)
theorem v127_329 (L : Nat) (xs : Nat → Int32) : zVal L xs 127 329 (.inl (i_k [false, true, false, true, true, true, true, true, true, true, true] (i_al 0 330))) := zS_k (zS_aload_n d127_329 rfl)
theorem v127_330 (L : Nat) (xs : Nat → Int32) : zVal L xs 127 330 (.inl (i_gf 10 40 333)) := zS_getf d127_330 (zcl10) (by decide) zi10 w818
theorem v127_333 (L : Nat) (xs : Nat → Int32) : zVal L xs 127 333 (.inl (i_il 2 334)) := zS_iload_n d127_333 rfl
theorem v127_334 (L : Nat) (xs : Nat → Int32) : zVal L xs 127 334 (.inl (i_ga 3 335)) := zS_zald d127_334
theorem v127_335 (L : Nat) (xs : Nat → Int32) : zVal L xs 127 335 (.inr (.inr 2)) := zr_2 d127_335 rfl
theorem vt127_0 (L : Nat) (xs : Nat → Int32) : zAll (fun x => zVal L xs 127 x.1 x.2) (tb127_0) := ⟨v127_0 L xs, v127_2 L xs, v127_4 L xs, v127_6 L xs, v127_9 L xs, v127_10 L xs, v127_12 L xs, v127_14 L xs, v127_15 L xs, v127_18 L xs, v127_20 L xs, v127_22 L xs, v127_25 L xs, v127_27 L xs, v127_28 L xs, v127_31 L xs, v127_32 L xs, v127_35 L xs, v127_36 L xs, v127_38 L xs, v127_39 L xs, v127_41 L xs, v127_43 L xs, v127_45 L xs, v127_48 L xs, v127_50 L xs, v127_51 L xs, v127_54 L xs, v127_56 L xs, v127_57 L xs, v127_60 L xs, v127_62 L xs, v127_64 L xs, v127_65 L xs, v127_66 L xs, v127_69 L xs, v127_71 L xs, v127_73 L xs, v127_74 L xs, v127_76 L xs, v127_78 L xs, v127_79 L xs, v127_82 L xs, v127_84 L xs, v127_85 L xs, v127_88 L xs, v127_89 L xs, v127_90 L xs, v127_92 L xs, v127_95 L xs, v127_98 L xs, v127_99 L xs, v127_102 L xs, v127_103 L xs, v127_105 L xs, v127_107 L xs, v127_110 L xs, v127_112 L xs, v127_115 L xs, v127_116 L xs, v127_119 L xs, v127_121 L xs, v127_123 L xs, v127_124 L xs, v127_125 L xs, v127_126 L xs, v127_128 L xs, v127_129 L xs, v127_130 L xs, v127_133 L xs, v127_134 L xs, v127_137 L xs, v127_138 L xs, v127_140 L xs, v127_143 L xs, v127_146 L xs, v127_147 L xs, v127_150 L xs, v127_152 L xs, v127_154 L xs, v127_155 L xs, v127_157 L xs, v127_158 L xs, v127_160 L xs, v127_161 L xs, v127_164 L xs, v127_167 L xs, v127_170 L xs, v127_173 L xs, v127_174 L xs, v127_176 L xs, v127_177 L xs, v127_179 L xs, v127_181 L xs, v127_183 L xs, v127_186 L xs, v127_187 L xs, v127_190 L xs, v127_191 L xs, v127_192 L xs, v127_195 L xs, v127_196 L xs, v127_199 L xs, v127_201 L xs, v127_202 L xs, v127_203 L xs, v127_204 L xs, v127_206 L xs, v127_208 L xs, v127_209 L xs, v127_212 L xs, v127_214 L xs, v127_215 L xs, v127_218 L xs, v127_220 L xs, v127_222 L xs, v127_223 L xs, v127_224 L xs, v127_227 L xs, v127_229 L xs, trivial⟩
theorem vt127_1 (L : Nat) (xs : Nat → Int32) : zAll (fun x => zVal L xs 127 x.1 x.2) (tb127_1) := ⟨v127_231 L xs, v127_232 L xs, v127_234 L xs, v127_236 L xs, v127_237 L xs, v127_240 L xs, v127_242 L xs, v127_243 L xs, v127_246 L xs, v127_247 L xs, v127_248 L xs, v127_250 L xs, v127_253 L xs, v127_256 L xs, v127_257 L xs, v127_260 L xs, v127_261 L xs, v127_263 L xs, v127_264 L xs, v127_267 L xs, v127_269 L xs, v127_271 L xs, v127_274 L xs, v127_275 L xs, v127_278 L xs, v127_280 L xs, v127_282 L xs, v127_283 L xs, v127_284 L xs, v127_285 L xs, v127_287 L xs, v127_288 L xs, v127_289 L xs, v127_292 L xs, v127_294 L xs, v127_297 L xs, v127_298 L xs, v127_301 L xs, v127_303 L xs, v127_304 L xs, v127_305 L xs, v127_308 L xs, v127_311 L xs, v127_313 L xs, v127_314 L xs, v127_317 L xs, v127_319 L xs, v127_320 L xs, v127_321 L xs, v127_323 L xs, v127_326 L xs, v127_329 L xs, v127_330 L xs, v127_333 L xs, v127_334 L xs, v127_335 L xs, trivial⟩
theorem vt127 (L : Nat) (xs : Nat → Int32) : zAll (fun x => zVal L xs 127 x.1 x.2) (tb127) := zAll_app (vt127_0 L xs) (vt127_1 L xs)
theorem d128_0 : decode (mB 128) 0 = .ok (.iload_n 2, 1) := by decide +kernel
theorem d128_1 : decode (mB 128) 1 = .ok (.iload 4, 2) := by decide +kernel
theorem d128_3 : decode (mB 128) 3 = .ok (.iadd, 1) := by decide +kernel
theorem d128_4 : decode (mB 128) 4 = .ok (.aload_n 0, 1) := by decide +kernel
theorem d128_5 : decode (mB 128) 5 = .ok (.getfield 114, 3) := by decide +kernel
theorem d128_8 : decode (mB 128) 8 = .ok (.if_icmp .gt 18, 3) := by decide +kernel
theorem d128_11 : decode (mB 128) 11 = .ok (.iload_n 3, 1) := by decide +kernel
theorem d128_12 : decode (mB 128) 12 = .ok (.iload 5, 2) := by decide +kernel
theorem d128_14 : decode (mB 128) 14 = .ok (.iadd, 1) := by decide +kernel
theorem d128_15 : decode (mB 128) 15 = .ok (.aload_n 0, 1) := by decide +kernel
theorem d128_16 : decode (mB 128) 16 = .ok (.getfield 117, 3) := by decide +kernel
theorem d128_19 : decode (mB 128) 19 = .ok (.if_icmp .gt 7, 3) := by decide +kernel
theorem d128_22 : decode (mB 128) 22 = .ok (.iconst 1, 1) := by decide +kernel
theorem d128_23 : decode (mB 128) 23 = .ok (.goto 4, 3) := by decide +kernel
theorem d128_26 : decode (mB 128) 26 = .ok (.iconst 0, 1) := by decide +kernel
theorem d128_27 : decode (mB 128) 27 = .ok (.istore 6, 2) := by decide +kernel
theorem d128_29 : decode (mB 128) 29 = .ok (.iload_n 2, 1) := by decide +kernel
theorem d128_30 : decode (mB 128) 30 = .ok (.istore 7, 2) := by decide +kernel
theorem d128_32 : decode (mB 128) 32 = .ok (.iload 7, 2) := by decide +kernel
theorem d128_34 : decode (mB 128) 34 = .ok (.iload_n 2, 1) := by decide +kernel
theorem d128_35 : decode (mB 128) 35 = .ok (.iload 4, 2) := by decide +kernel
theorem d128_37 : decode (mB 128) 37 = .ok (.iadd, 1) := by decide +kernel
theorem d128_38 : decode (mB 128) 38 = .ok (.if_icmp .ge 65, 3) := by decide +kernel
theorem d128_41 : decode (mB 128) 41 = .ok (.iload 6, 2) := by decide +kernel
theorem d128_43 : decode (mB 128) 43 = .ok (.ifCond .eq 60, 3) := by decide +kernel
theorem d128_46 : decode (mB 128) 46 = .ok (.iload_n 3, 1) := by decide +kernel
theorem d128_47 : decode (mB 128) 47 = .ok (.istore 8, 2) := by decide +kernel
theorem d128_49 : decode (mB 128) 49 = .ok (.iload 8, 2) := by decide +kernel
theorem d128_51 : decode (mB 128) 51 = .ok (.iload_n 3, 1) := by decide +kernel
theorem d128_52 : decode (mB 128) 52 = .ok (.iload 5, 2) := by decide +kernel
theorem d128_54 : decode (mB 128) 54 = .ok (.iadd, 1) := by decide +kernel
theorem d128_55 : decode (mB 128) 55 = .ok (.if_icmp .ge 42, 3) := by decide +kernel
theorem d128_58 : decode (mB 128) 58 = .ok (.iload 6, 2) := by decide +kernel
theorem d128_60 : decode (mB 128) 60 = .ok (.ifCond .eq 37, 3) := by decide +kernel
theorem d128_63 : decode (mB 128) 63 = .ok (.aload_n 0, 1) := by decide +kernel
theorem d128_64 : decode (mB 128) 64 = .ok (.getfield 99, 3) := by decide +kernel
theorem d128_67 : decode (mB 128) 67 = .ok (.bipush 64, 2) := by decide +kernel
theorem d128_69 : decode (mB 128) 69 = .ok (.iload_n 1, 1) := by decide +kernel
theorem d128_70 : decode (mB 128) 70 = .ok (.imul, 1) := by decide +kernel
theorem d128_71 : decode (mB 128) 71 = .ok (.bipush 16, 2) := by decide +kernel
theorem d128_73 : decode (mB 128) 73 = .ok (.iload 7, 2) := by decide +kernel
theorem d128_75 : decode (mB 128) 75 = .ok (.imul, 1) := by decide +kernel
theorem d128_76 : decode (mB 128) 76 = .ok (.iadd, 1) := by decide +kernel
theorem d128_77 : decode (mB 128) 77 = .ok (.iload 8, 2) := by decide +kernel
theorem d128_79 : decode (mB 128) 79 = .ok (.iadd, 1) := by decide +kernel
theorem d128_80 : decode (mB 128) 80 = .ok (.iaload, 1) := by decide +kernel
theorem d128_81 : decode (mB 128) 81 = .ok (.ifCond .ne 7, 3) := by decide +kernel
theorem d128_84 : decode (mB 128) 84 = .ok (.iconst 1, 1) := by decide +kernel
theorem d128_85 : decode (mB 128) 85 = .ok (.goto 4, 3) := by decide +kernel
theorem d128_88 : decode (mB 128) 88 = .ok (.iconst 0, 1) := by decide +kernel
theorem d128_89 : decode (mB 128) 89 = .ok (.istore 6, 2) := by decide +kernel
theorem d128_91 : decode (mB 128) 91 = .ok (.iinc 8 1, 3) := by decide +kernel
theorem d128_94 : decode (mB 128) 94 = .ok (.goto (-45), 3) := by decide +kernel
theorem d128_97 : decode (mB 128) 97 = .ok (.iinc 7 1, 3) := by decide +kernel
theorem d128_100 : decode (mB 128) 100 = .ok (.goto (-68), 3) := by decide +kernel
theorem d128_103 : decode (mB 128) 103 = .ok (.iload 6, 2) := by decide +kernel
theorem d128_105 : decode (mB 128) 105 = .ok (.ireturn, 1) := by decide +kernel
theorem v128_0 (L : Nat) (xs : Nat → Int32) : zVal L xs 128 0 (.inl (i_il 2 1)) := zS_iload_n d128_0 rfl
theorem v128_1 (L : Nat) (xs : Nat → Int32) : zVal L xs 128 1 (.inl (i_il 4 3)) := zS_iload d128_1
theorem v128_3 (L : Nat) (xs : Nat → Int32) : zVal L xs 128 3 (.inl (i_bi (fun x y => x + y) 4)) := zS_iadd d128_3
theorem v128_4 (L : Nat) (xs : Nat → Int32) : zVal L xs 128 4 (.inl (i_al 0 5)) := zS_aload_n d128_4 rfl
theorem v128_5 (L : Nat) (xs : Nat → Int32) : zVal L xs 128 5 (.inl (i_gf 10 0 8)) := zS_getf d128_5 (zcl10) (by decide) zi10 w778
theorem v128_8 (L : Nat) (xs : Nat → Int32) : zVal L xs 128 8 (.inl (i_f2 (fun x y => decide (y < x)) 26 11)) := zS_icmp_gt d128_8 (by decide)
theorem v128_11 (L : Nat) (xs : Nat → Int32) : zVal L xs 128 11 (.inl (i_il 3 12)) := zS_iload_n d128_11 rfl
theorem v128_12 (L : Nat) (xs : Nat → Int32) : zVal L xs 128 12 (.inl (i_il 5 14)) := zS_iload d128_12
theorem v128_14 (L : Nat) (xs : Nat → Int32) : zVal L xs 128 14 (.inl (i_bi (fun x y => x + y) 15)) := zS_iadd d128_14
theorem v128_15 (L : Nat) (xs : Nat → Int32) : zVal L xs 128 15 (.inl (i_al 0 16)) := zS_aload_n d128_15 rfl
theorem v128_16 (L : Nat) (xs : Nat → Int32) : zVal L xs 128 16 (.inl (i_gf 10 1 19)) := zS_getf d128_16 (zcl10) (by decide) zi10 w779
theorem v128_19 (L : Nat) (xs : Nat → Int32) : zVal L xs 128 19 (.inl (i_f2 (fun x y => decide (y < x)) 26 22)) := zS_icmp_gt d128_19 (by decide)
theorem v128_22 (L : Nat) (xs : Nat → Int32) : zVal L xs 128 22 (.inl (i_c (.int 1) 23)) := zS_iconst d128_22 (by decide)
theorem v128_23 (L : Nat) (xs : Nat → Int32) : zVal L xs 128 23 (.inl (i_go 27)) := zS_goto d128_23 (by decide)
theorem v128_26 (L : Nat) (xs : Nat → Int32) : zVal L xs 128 26 (.inl (i_k [false, false, false, false, false, false, true, true, true] (i_c (.int 0) 27))) := zS_k (zS_iconst d128_26 (by decide))
theorem v128_27 (L : Nat) (xs : Nat → Int32) : zVal L xs 128 27 (.inl (i_k [false, false, false, false, false, false, true, true, true] (i_is 6 29))) := zS_k (zS_istore d128_27)
theorem v128_29 (L : Nat) (xs : Nat → Int32) : zVal L xs 128 29 (.inl (i_il 2 30)) := zS_iload_n d128_29 rfl
theorem v128_30 (L : Nat) (xs : Nat → Int32) : zVal L xs 128 30 (.inl (i_is 7 32)) := zS_istore d128_30
theorem v128_32 (L : Nat) (xs : Nat → Int32) : zVal L xs 128 32 (.inl (i_k [false, false, false, false, false, false, false, false, true] (i_il 7 34))) := zS_k (zS_iload d128_32)
theorem v128_34 (L : Nat) (xs : Nat → Int32) : zVal L xs 128 34 (.inl (i_il 2 35)) := zS_iload_n d128_34 rfl
theorem v128_35 (L : Nat) (xs : Nat → Int32) : zVal L xs 128 35 (.inl (i_il 4 37)) := zS_iload d128_35
theorem v128_37 (L : Nat) (xs : Nat → Int32) : zVal L xs 128 37 (.inl (i_bi (fun x y => x + y) 38)) := zS_iadd d128_37
theorem v128_38 (L : Nat) (xs : Nat → Int32) : zVal L xs 128 38 (.inl (i_f2 (fun x y => decide (y ≤ x)) 103 41)) := zS_icmp_ge d128_38 (by decide)
theorem v128_41 (L : Nat) (xs : Nat → Int32) : zVal L xs 128 41 (.inl (i_il 6 43)) := zS_iload d128_41
theorem v128_43 (L : Nat) (xs : Nat → Int32) : zVal L xs 128 43 (.inl (i_f1 (fun x => decide (x = 0)) 103 46)) := zS_if_eq d128_43 (by decide)
theorem v128_46 (L : Nat) (xs : Nat → Int32) : zVal L xs 128 46 (.inl (i_il 3 47)) := zS_iload_n d128_46 rfl
theorem v128_47 (L : Nat) (xs : Nat → Int32) : zVal L xs 128 47 (.inl (i_is 8 49)) := zS_istore d128_47
theorem v128_49 (L : Nat) (xs : Nat → Int32) : zVal L xs 128 49 (.inl (i_k [false, false, false, false, false, false, false, false, false] (i_il 8 51))) := zS_k (zS_iload d128_49)
theorem v128_51 (L : Nat) (xs : Nat → Int32) : zVal L xs 128 51 (.inl (i_il 3 52)) := zS_iload_n d128_51 rfl
theorem v128_52 (L : Nat) (xs : Nat → Int32) : zVal L xs 128 52 (.inl (i_il 5 54)) := zS_iload d128_52
theorem v128_54 (L : Nat) (xs : Nat → Int32) : zVal L xs 128 54 (.inl (i_bi (fun x y => x + y) 55)) := zS_iadd d128_54
theorem v128_55 (L : Nat) (xs : Nat → Int32) : zVal L xs 128 55 (.inl (i_f2 (fun x y => decide (y ≤ x)) 97 58)) := zS_icmp_ge d128_55 (by decide)
theorem v128_58 (L : Nat) (xs : Nat → Int32) : zVal L xs 128 58 (.inl (i_il 6 60)) := zS_iload d128_58
theorem v128_60 (L : Nat) (xs : Nat → Int32) : zVal L xs 128 60 (.inl (i_f1 (fun x => decide (x = 0)) 97 63)) := zS_if_eq d128_60 (by decide)
theorem v128_63 (L : Nat) (xs : Nat → Int32) : zVal L xs 128 63 (.inl (i_al 0 64)) := zS_aload_n d128_63 rfl
theorem v128_64 (L : Nat) (xs : Nat → Int32) : zVal L xs 128 64 (.inl (i_gf 10 37 67)) := zS_getf d128_64 (zcl10) (by decide) zi10 w815
theorem v128_67 (L : Nat) (xs : Nat → Int32) : zVal L xs 128 67 (.inl (i_c (.int 64) 69)) := zS_bipush d128_67 (by decide)
theorem v128_69 (L : Nat) (xs : Nat → Int32) : zVal L xs 128 69 (.inl (i_il 1 70)) := zS_iload_n d128_69 rfl
theorem v128_70 (L : Nat) (xs : Nat → Int32) : zVal L xs 128 70 (.inl (i_bi (fun x y => x * y) 71)) := zS_imul d128_70
theorem v128_71 (L : Nat) (xs : Nat → Int32) : zVal L xs 128 71 (.inl (i_c (.int 16) 73)) := zS_bipush d128_71 (by decide)
theorem v128_73 (L : Nat) (xs : Nat → Int32) : zVal L xs 128 73 (.inl (i_il 7 75)) := zS_iload d128_73
theorem v128_75 (L : Nat) (xs : Nat → Int32) : zVal L xs 128 75 (.inl (i_bi (fun x y => x * y) 76)) := zS_imul d128_75
theorem v128_76 (L : Nat) (xs : Nat → Int32) : zVal L xs 128 76 (.inl (i_bi (fun x y => x + y) 77)) := zS_iadd d128_76
theorem v128_77 (L : Nat) (xs : Nat → Int32) : zVal L xs 128 77 (.inl (i_il 8 79)) := zS_iload d128_77
theorem v128_79 (L : Nat) (xs : Nat → Int32) : zVal L xs 128 79 (.inl (i_bi (fun x y => x + y) 80)) := zS_iadd d128_79
theorem v128_80 (L : Nat) (xs : Nat → Int32) : zVal L xs 128 80 (.inl (i_ga 0 81)) := zS_iald d128_80
theorem v128_81 (L : Nat) (xs : Nat → Int32) : zVal L xs 128 81 (.inl (i_f1 (fun x => decide (¬ x = 0)) 88 84)) := zS_if_ne d128_81 (by decide)
theorem v128_84 (L : Nat) (xs : Nat → Int32) : zVal L xs 128 84 (.inl (i_c (.int 1) 85)) := zS_iconst d128_84 (by decide)
theorem v128_85 (L : Nat) (xs : Nat → Int32) : zVal L xs 128 85 (.inl (i_go 89)) := zS_goto d128_85 (by decide)
theorem v128_88 (L : Nat) (xs : Nat → Int32) : zVal L xs 128 88 (.inl (i_c (.int 0) 89)) := zS_iconst d128_88 (by decide)
theorem v128_89 (L : Nat) (xs : Nat → Int32) : zVal L xs 128 89 (.inl (i_k [false, false, false, false, false, false, true, false, false] (i_is 6 91))) := zS_k (zS_istore d128_89)
theorem v128_91 (L : Nat) (xs : Nat → Int32) : zVal L xs 128 91 (.inl (i_in 8 1 94)) := zS_iinc d128_91 (by decide)
theorem v128_94 (L : Nat) (xs : Nat → Int32) : zVal L xs 128 94 (.inl (i_go 49)) := zS_goto d128_94 (by decide)
theorem v128_97 (L : Nat) (xs : Nat → Int32) : zVal L xs 128 97 (.inl (i_k [false, false, false, false, false, false, false, false, true] (i_in 7 1 100))) := zS_k (zS_iinc d128_97 (by decide))
theorem v128_100 (L : Nat) (xs : Nat → Int32) : zVal L xs 128 100 (.inl (i_go 32)) := zS_goto d128_100 (by decide)
theorem v128_103 (L : Nat) (xs : Nat → Int32) : zVal L xs 128 103 (.inl (i_k [true, true, true, true, true, true, false, true, true] (i_il 6 105))) := zS_k (zS_iload d128_103)
theorem v128_105 (L : Nat) (xs : Nat → Int32) : zVal L xs 128 105 (.inr (.inr 2)) := zr_2 d128_105 rfl
theorem vt128 (L : Nat) (xs : Nat → Int32) : zAll (fun x => zVal L xs 128 x.1 x.2) (tb128) := ⟨v128_0 L xs, v128_1 L xs, v128_3 L xs, v128_4 L xs, v128_5 L xs, v128_8 L xs, v128_11 L xs, v128_12 L xs, v128_14 L xs, v128_15 L xs, v128_16 L xs, v128_19 L xs, v128_22 L xs, v128_23 L xs, v128_26 L xs, v128_27 L xs, v128_29 L xs, v128_30 L xs, v128_32 L xs, v128_34 L xs, v128_35 L xs, v128_37 L xs, v128_38 L xs, v128_41 L xs, v128_43 L xs, v128_46 L xs, v128_47 L xs, v128_49 L xs, v128_51 L xs, v128_52 L xs, v128_54 L xs, v128_55 L xs, v128_58 L xs, v128_60 L xs, v128_63 L xs, v128_64 L xs, v128_67 L xs, v128_69 L xs, v128_70 L xs, v128_71 L xs, v128_73 L xs, v128_75 L xs, v128_76 L xs, v128_77 L xs, v128_79 L xs, v128_80 L xs, v128_81 L xs, v128_84 L xs, v128_85 L xs, v128_88 L xs, v128_89 L xs, v128_91 L xs, v128_94 L xs, v128_97 L xs, v128_100 L xs, v128_103 L xs, v128_105 L xs, trivial⟩
theorem d129_0 : decode (mB 129) 0 = .ok (.iconst 0, 1) := by decide +kernel
theorem d129_1 : decode (mB 129) 1 = .ok (.istore 4, 2) := by decide +kernel
theorem d129_3 : decode (mB 129) 3 = .ok (.iload 4, 2) := by decide +kernel
theorem d129_5 : decode (mB 129) 5 = .ok (.aload_n 0, 1) := by decide +kernel
theorem d129_6 : decode (mB 129) 6 = .ok (.getfield 117, 3) := by decide +kernel
theorem d129_9 : decode (mB 129) 9 = .ok (.if_icmp .ge 65, 3) := by decide +kernel
theorem d129_12 : decode (mB 129) 12 = .ok (.iconst 0, 1) := by decide +kernel
theorem d129_13 : decode (mB 129) 13 = .ok (.istore 5, 2) := by decide +kernel
theorem d129_15 : decode (mB 129) 15 = .ok (.iload 5, 2) := by decide +kernel
theorem d129_17 : decode (mB 129) 17 = .ok (.aload_n 0, 1) := by decide +kernel
theorem d129_18 : decode (mB 129) 18 = .ok (.getfield 114, 3) := by decide +kernel
theorem d129_21 : decode (mB 129) 21 = .ok (.if_icmp .ge 47, 3) := by decide +kernel
theorem d129_24 : decode (mB 129) 24 = .ok (.aload_n 0, 1) := by decide +kernel
theorem d129_25 : decode (mB 129) 25 = .ok (.iload_n 1, 1) := by decide +kernel
theorem d129_26 : decode (mB 129) 26 = .ok (.iload 5, 2) := by decide +kernel
theorem d129_28 : decode (mB 129) 28 = .ok (.iload 4, 2) := by decide +kernel
theorem d129_30 : decode (mB 129) 30 = .ok (.iload_n 2, 1) := by decide +kernel
theorem d129_31 : decode (mB 129) 31 = .ok (.iload_n 3, 1) := by decide +kernel
theorem d129_32 : decode (mB 129) 32 = .ok (.invokevirtual 218, 3) := by decide +kernel
theorem d129_35 : decode (mB 129) 35 = .ok (.ifCond .eq 27, 3) := by decide +kernel
theorem d129_38 : decode (mB 129) 38 = .ok (.aload_n 0, 1) := by decide +kernel
theorem d129_39 : decode (mB 129) 39 = .ok (.iload_n 1, 1) := by decide +kernel
theorem d129_40 : decode (mB 129) 40 = .ok (.putfield 222, 3) := by decide +kernel
theorem d129_43 : decode (mB 129) 43 = .ok (.aload_n 0, 1) := by decide +kernel
theorem d129_44 : decode (mB 129) 44 = .ok (.iload 5, 2) := by decide +kernel
theorem d129_46 : decode (mB 129) 46 = .ok (.putfield 225, 3) := by decide +kernel
theorem d129_49 : decode (mB 129) 49 = .ok (.aload_n 0, 1) := by decide +kernel
theorem d129_50 : decode (mB 129) 50 = .ok (.iload 4, 2) := by decide +kernel
theorem d129_52 : decode (mB 129) 52 = .ok (.putfield 228, 3) := by decide +kernel
theorem d129_55 : decode (mB 129) 55 = .ok (.aload_n 0, 1) := by decide +kernel
theorem d129_56 : decode (mB 129) 56 = .ok (.iload_n 2, 1) := by decide +kernel
theorem d129_57 : decode (mB 129) 57 = .ok (.putfield 231, 3) := by decide +kernel
theorem d129_60 : decode (mB 129) 60 = .ok (.iconst 1, 1) := by decide +kernel
theorem d129_61 : decode (mB 129) 61 = .ok (.ireturn, 1) := by decide +kernel
theorem d129_62 : decode (mB 129) 62 = .ok (.iinc 5 1, 3) := by decide +kernel
theorem d129_65 : decode (mB 129) 65 = .ok (.goto (-50), 3) := by decide +kernel
theorem d129_68 : decode (mB 129) 68 = .ok (.iinc 4 1, 3) := by decide +kernel
theorem d129_71 : decode (mB 129) 71 = .ok (.goto (-68), 3) := by decide +kernel
theorem d129_74 : decode (mB 129) 74 = .ok (.iconst 0, 1) := by decide +kernel
theorem d129_75 : decode (mB 129) 75 = .ok (.ireturn, 1) := by decide +kernel
theorem v129_0 (L : Nat) (xs : Nat → Int32) : zVal L xs 129 0 (.inl (i_c (.int 0) 1)) := zS_iconst d129_0 (by decide)
theorem v129_1 (L : Nat) (xs : Nat → Int32) : zVal L xs 129 1 (.inl (i_is 4 3)) := zS_istore d129_1
theorem v129_3 (L : Nat) (xs : Nat → Int32) : zVal L xs 129 3 (.inl (i_k [false, false, false, false, false, true] (i_il 4 5))) := zS_k (zS_iload d129_3)
theorem v129_5 (L : Nat) (xs : Nat → Int32) : zVal L xs 129 5 (.inl (i_al 0 6)) := zS_aload_n d129_5 rfl
theorem v129_6 (L : Nat) (xs : Nat → Int32) : zVal L xs 129 6 (.inl (i_gf 10 1 9)) := zS_getf d129_6 (zcl10) (by decide) zi10 w779
theorem v129_9 (L : Nat) (xs : Nat → Int32) : zVal L xs 129 9 (.inl (i_f2 (fun x y => decide (y ≤ x)) 74 12)) := zS_icmp_ge d129_9 (by decide)
theorem v129_12 (L : Nat) (xs : Nat → Int32) : zVal L xs 129 12 (.inl (i_c (.int 0) 13)) := zS_iconst d129_12 (by decide)
theorem v129_13 (L : Nat) (xs : Nat → Int32) : zVal L xs 129 13 (.inl (i_is 5 15)) := zS_istore d129_13
theorem v129_15 (L : Nat) (xs : Nat → Int32) : zVal L xs 129 15 (.inl (i_k [false, false, false, false, false, false] (i_il 5 17))) := zS_k (zS_iload d129_15)
theorem v129_17 (L : Nat) (xs : Nat → Int32) : zVal L xs 129 17 (.inl (i_al 0 18)) := zS_aload_n d129_17 rfl
theorem v129_18 (L : Nat) (xs : Nat → Int32) : zVal L xs 129 18 (.inl (i_gf 10 0 21)) := zS_getf d129_18 (zcl10) (by decide) zi10 w778
theorem v129_21 (L : Nat) (xs : Nat → Int32) : zVal L xs 129 21 (.inl (i_f2 (fun x y => decide (y ≤ x)) 68 24)) := zS_icmp_ge d129_21 (by decide)
theorem v129_24 (L : Nat) (xs : Nat → Int32) : zVal L xs 129 24 (.inl (i_al 0 25)) := zS_aload_n d129_24 rfl
theorem v129_25 (L : Nat) (xs : Nat → Int32) : zVal L xs 129 25 (.inl (i_il 1 26)) := zS_iload_n d129_25 rfl
theorem v129_26 (L : Nat) (xs : Nat → Int32) : zVal L xs 129 26 (.inl (i_il 5 28)) := zS_iload d129_26
theorem v129_28 (L : Nat) (xs : Nat → Int32) : zVal L xs 129 28 (.inl (i_il 4 30)) := zS_iload d129_28
theorem v129_30 (L : Nat) (xs : Nat → Int32) : zVal L xs 129 30 (.inl (i_il 2 31)) := zS_iload_n d129_30 rfl
theorem v129_31 (L : Nat) (xs : Nat → Int32) : zVal L xs 129 31 (.inl (i_il 3 32)) := zS_iload_n d129_31 rfl
theorem v129_32 (L : Nat) (xs : Nat → Int32) : zVal L xs 129 32 (.inr (.inl (128, 6, 11))) := ⟨by decide +kernel, by decide +kernel, zc_virt d129_32 zcl10 w1055 w1052 w1054 w58 w85 ⟨by decide +kernel, by decide +kernel, by decide +kernel⟩ (by decide) (by decide)⟩
theorem v129_35 (L : Nat) (xs : Nat → Int32) : zVal L xs 129 35 (.inl (i_f1 (fun x => decide (x = 0)) 62 38)) := zS_if_eq d129_35 (by decide)
theorem v129_38 (L : Nat) (xs : Nat → Int32) : zVal L xs 129 38 (.inl (i_al 0 39)) := zS_aload_n d129_38 rfl
theorem v129_39 (L : Nat) (xs : Nat → Int32) : zVal L xs 129 39 (.inl (i_il 1 40)) := zS_iload_n d129_39 rfl
theorem v129_40 (L : Nat) (xs : Nat → Int32) : zVal L xs 129 40 (.inl (i_pf 10 42 okI 43)) := zS_putf (ty := .int) d129_40 (zcl10) (by decide) zi10 w820 zy10 zn10 (by decide +kernel) (by decide +kernel) okI_ok
theorem v129_43 (L : Nat) (xs : Nat → Int32) : zVal L xs 129 43 (.inl (i_al 0 44)) := zS_aload_n d129_43 rfl
theorem v129_44 (L : Nat) (xs : Nat → Int32) : zVal L xs 129 44 (.inl (i_il 5 46)) := zS_iload d129_44
theorem v129_46 (L : Nat) (xs : Nat → Int32) : zVal L xs 129 46 (.inl (i_pf 10 43 okI 49)) := zS_putf (ty := .int) d129_46 (zcl10) (by decide) zi10 w821 zy10 zn10 (by decide +kernel) (by decide +kernel) okI_ok
theorem v129_49 (L : Nat) (xs : Nat → Int32) : zVal L xs 129 49 (.inl (i_al 0 50)) := zS_aload_n d129_49 rfl
theorem v129_50 (L : Nat) (xs : Nat → Int32) : zVal L xs 129 50 (.inl (i_il 4 52)) := zS_iload d129_50
theorem v129_52 (L : Nat) (xs : Nat → Int32) : zVal L xs 129 52 (.inl (i_pf 10 44 okI 55)) := zS_putf (ty := .int) d129_52 (zcl10) (by decide) zi10 w822 zy10 zn10 (by decide +kernel) (by decide +kernel) okI_ok
theorem v129_55 (L : Nat) (xs : Nat → Int32) : zVal L xs 129 55 (.inl (i_al 0 56)) := zS_aload_n d129_55 rfl
theorem v129_56 (L : Nat) (xs : Nat → Int32) : zVal L xs 129 56 (.inl (i_il 2 57)) := zS_iload_n d129_56 rfl
theorem v129_57 (L : Nat) (xs : Nat → Int32) : zVal L xs 129 57 (.inl (i_pf 10 45 okI 60)) := zS_putf (ty := .int) d129_57 (zcl10) (by decide) zi10 w823 zy10 zn10 (by decide +kernel) (by decide +kernel) okI_ok
theorem v129_60 (L : Nat) (xs : Nat → Int32) : zVal L xs 129 60 (.inl (i_c (.int 1) 61)) := zS_iconst d129_60 (by decide)
theorem v129_61 (L : Nat) (xs : Nat → Int32) : zVal L xs 129 61 (.inr (.inr 2)) := zr_2 d129_61 rfl
theorem v129_62 (L : Nat) (xs : Nat → Int32) : zVal L xs 129 62 (.inl (i_in 5 1 65)) := zS_iinc d129_62 (by decide)
theorem v129_65 (L : Nat) (xs : Nat → Int32) : zVal L xs 129 65 (.inl (i_go 15)) := zS_goto d129_65 (by decide)
theorem v129_68 (L : Nat) (xs : Nat → Int32) : zVal L xs 129 68 (.inl (i_in 4 1 71)) := zS_iinc d129_68 (by decide)
theorem v129_71 (L : Nat) (xs : Nat → Int32) : zVal L xs 129 71 (.inl (i_go 3)) := zS_goto d129_71 (by decide)
theorem v129_74 (L : Nat) (xs : Nat → Int32) : zVal L xs 129 74 (.inl (i_c (.int 0) 75)) := zS_iconst d129_74 (by decide)
theorem v129_75 (L : Nat) (xs : Nat → Int32) : zVal L xs 129 75 (.inr (.inr 2)) := zr_2 d129_75 rfl
theorem vt129 (L : Nat) (xs : Nat → Int32) : zAll (fun x => zVal L xs 129 x.1 x.2) (tb129) := ⟨v129_0 L xs, v129_1 L xs, v129_3 L xs, v129_5 L xs, v129_6 L xs, v129_9 L xs, v129_12 L xs, v129_13 L xs, v129_15 L xs, v129_17 L xs, v129_18 L xs, v129_21 L xs, v129_24 L xs, v129_25 L xs, v129_26 L xs, v129_28 L xs, v129_30 L xs, v129_31 L xs, v129_32 L xs, v129_35 L xs, v129_38 L xs, v129_39 L xs, v129_40 L xs, v129_43 L xs, v129_44 L xs, v129_46 L xs, v129_49 L xs, v129_50 L xs, v129_52 L xs, v129_55 L xs, v129_56 L xs, v129_57 L xs, v129_60 L xs, v129_61 L xs, v129_62 L xs, v129_65 L xs, v129_68 L xs, v129_71 L xs, v129_74 L xs, v129_75 L xs, trivial⟩
theorem d130_0 : decode (mB 130) 0 = .ok (.iconst 1, 1) := by decide +kernel
theorem d130_1 : decode (mB 130) 1 = .ok (.istore 7, 2) := by decide +kernel
theorem d130_3 : decode (mB 130) 3 = .ok (.iload 7, 2) := by decide +kernel
theorem d130_5 : decode (mB 130) 5 = .ok (.aload_n 0, 1) := by decide +kernel
theorem d130_6 : decode (mB 130) 6 = .ok (.getfield 114, 3) := by decide +kernel
theorem d130_9 : decode (mB 130) 9 = .ok (.if_icmp .gt 105, 3) := by decide +kernel
theorem d130_12 : decode (mB 130) 12 = .ok (.aload_n 0, 1) := by decide +kernel
theorem d130_13 : decode (mB 130) 13 = .ok (.getfield 111, 3) := by decide +kernel
theorem d130_16 : decode (mB 130) 16 = .ok (.iload 7, 2) := by decide +kernel
theorem d130_18 : decode (mB 130) 18 = .ok (.iconst 0, 1) := by decide +kernel
theorem d130_19 : decode (mB 130) 19 = .ok (.iastore, 1) := by decide +kernel
theorem d130_20 : decode (mB 130) 20 = .ok (.aload_n 0, 1) := by decide +kernel
theorem d130_21 : decode (mB 130) 21 = .ok (.getfield 117, 3) := by decide +kernel
theorem d130_24 : decode (mB 130) 24 = .ok (.iconst 1, 1) := by decide +kernel
theorem d130_25 : decode (mB 130) 25 = .ok (.isub, 1) := by decide +kernel
theorem d130_26 : decode (mB 130) 26 = .ok (.istore 8, 2) := by decide +kernel
theorem d130_28 : decode (mB 130) 28 = .ok (.iload 8, 2) := by decide +kernel
theorem d130_30 : decode (mB 130) 30 = .ok (.iconst 1, 1) := by decide +kernel
theorem d130_31 : decode (mB 130) 31 = .ok (.if_icmp .lt 77, 3) := by decide +kernel
theorem d130_34 : decode (mB 130) 34 = .ok (.iload 4, 2) := by decide +kernel
theorem d130_36 : decode (mB 130) 36 = .ok (.iload 7, 2) := by decide +kernel
theorem d130_38 : decode (mB 130) 38 = .ok (.if_icmp .gt 70, 3) := by decide +kernel
theorem d130_41 : decode (mB 130) 41 = .ok (.aload_n 0, 1) := by decide +kernel
theorem d130_42 : decode (mB 130) 42 = .ok (.iload 7, 2) := by decide +kernel
theorem d130_44 : decode (mB 130) 44 = .ok (.iload 8, 2) := by decide +kernel
theorem d130_46 : decode (mB 130) 46 = .ok (.iload 4, 2) := by decide +kernel
theorem d130_48 : decode (mB 130) 48 = .ok (.iload 5, 2) := by decide +kernel
theorem d130_50 : decode (mB 130) 50 = .ok (.iconst 0, 1) := by decide +kernel
theorem d130_51 : decode (mB 130) 51 = .ok (.invokevirtual 234, 3) := by decide +kernel
theorem d130_54 : decode (mB 130) 54 = .ok (.ifCond .eq 19, 3) := by decide +kernel
theorem d130_57 : decode (mB 130) 57 = .ok (.aload_n 0, 1) := by decide +kernel
theorem d130_58 : decode (mB 130) 58 = .ok (.iload_n 1, 1) := by decide +kernel
theorem d130_59 : decode (mB 130) 59 = .ok (.iload_n 2, 1) := by decide +kernel
theorem d130_60 : decode (mB 130) 60 = .ok (.iload_n 3, 1) := by decide +kernel
theorem d130_61 : decode (mB 130) 61 = .ok (.iload 7, 2) := by decide +kernel
theorem d130_63 : decode (mB 130) 63 = .ok (.invokevirtual 237, 3) := by decide +kernel
theorem d130_66 : decode (mB 130) 66 = .ok (.ifCond .eq 7, 3) := by decide +kernel
theorem d130_69 : decode (mB 130) 69 = .ok (.iconst 1, 1) := by decide +kernel
theorem d130_70 : decode (mB 130) 70 = .ok (.goto 4, 3) := by decide +kernel
theorem d130_73 : decode (mB 130) 73 = .ok (.iconst 0, 1) := by decide +kernel
theorem d130_74 : decode (mB 130) 74 = .ok (.istore 9, 2) := by decide +kernel
theorem d130_76 : decode (mB 130) 76 = .ok (.aload_n 0, 1) := by decide +kernel
theorem d130_77 : decode (mB 130) 77 = .ok (.getfield 111, 3) := by decide +kernel
theorem d130_80 : decode (mB 130) 80 = .ok (.iload 7, 2) := by decide +kernel
theorem d130_82 : decode (mB 130) 82 = .ok (.iload 9, 2) := by decide +kernel
theorem d130_84 : decode (mB 130) 84 = .ok (.ifCond .eq 10, 3) := by decide +kernel
theorem d130_87 : decode (mB 130) 87 = .ok (.iload 8, 2) := by decide +kernel
theorem d130_89 : decode (mB 130) 89 = .ok (.iconst 1, 1) := by decide +kernel
theorem d130_90 : decode (mB 130) 90 = .ok (.iadd, 1) := by decide +kernel
theorem d130_91 : decode (mB 130) 91 = .ok (.goto 10, 3) := by decide +kernel
theorem d130_94 : decode (mB 130) 94 = .ok (.aload_n 0, 1) := by decide +kernel
theorem d130_95 : decode (mB 130) 95 = .ok (.getfield 111, 3) := by decide +kernel
theorem d130_98 : decode (mB 130) 98 = .ok (.iload 7, 2) := by decide +kernel
theorem d130_100 : decode (mB 130) 100 = .ok (.iaload, 1) := by decide +kernel
theorem d130_101 : decode (mB 130) 101 = .ok (.iastore, 1) := by decide +kernel
theorem d130_102 : decode (mB 130) 102 = .ok (.iinc 8 (-1), 3) := by decide +kernel
theorem d130_105 : decode (mB 130) 105 = .ok (.goto (-77), 3) := by decide +kernel
theorem d130_108 : decode (mB 130) 108 = .ok (.iinc 7 1, 3) := by decide +kernel
theorem d130_111 : decode (mB 130) 111 = .ok (.goto (-108), 3) := by decide +kernel
theorem d130_114 : decode (mB 130) 114 = .ok (.iload 6, 2) := by decide +kernel
theorem d130_116 : decode (mB 130) 116 = .ok (.istore 7, 2) := by decide +kernel
theorem d130_118 : decode (mB 130) 118 = .ok (.iload 7, 2) := by decide +kernel
theorem d130_120 : decode (mB 130) 120 = .ok (.iconst 3, 1) := by decide +kernel
theorem d130_121 : decode (mB 130) 121 = .ok (.if_icmp .ge 57, 3) := by decide +kernel
theorem d130_124 : decode (mB 130) 124 = .ok (.aload_n 0, 1) := by decide +kernel
theorem d130_125 : decode (mB 130) 125 = .ok (.getfield 114, 3) := by decide +kernel
theorem d130_128 : decode (mB 130) 128 = .ok (.istore 8, 2) := by decide +kernel
theorem d130_130 : decode (mB 130) 130 = .ok (.iload 8, 2) := by decide +kernel
theorem d130_132 : decode (mB 130) 132 = .ok (.iconst 1, 1) := by decide +kernel
theorem d130_133 : decode (mB 130) 133 = .ok (.if_icmp .lt 39, 3) := by decide +kernel
theorem d130_136 : decode (mB 130) 136 = .ok (.aload_n 0, 1) := by decide +kernel
theorem d130_137 : decode (mB 130) 137 = .ok (.getfield 111, 3) := by decide +kernel
theorem d130_140 : decode (mB 130) 140 = .ok (.iload 8, 2) := by decide +kernel
theorem d130_142 : decode (mB 130) 142 = .ok (.iaload, 1) := by decide +kernel
theorem d130_143 : decode (mB 130) 143 = .ok (.ifCond .le 23, 3) := by decide +kernel
theorem d130_146 : decode (mB 130) 146 = .ok (.aload_n 0, 1) := by decide +kernel
theorem d130_147 : decode (mB 130) 147 = .ok (.iload 7, 2) := by decide +kernel
theorem d130_149 : decode (mB 130) 149 = .ok (.iload 8, 2) := by decide +kernel
theorem d130_151 : decode (mB 130) 151 = .ok (.aload_n 0, 1) := by decide +kernel
theorem d130_152 : decode (mB 130) 152 = .ok (.getfield 111, 3) := by decide +kernel
theorem d130_155 : decode (mB 130) 155 = .ok (.iload 8, 2) := by decide +kernel
theorem d130_157 : decode (mB 130) 157 = .ok (.iaload, 1) := by decide +kernel
theorem d130_158 : decode (mB 130) 158 = .ok (.invokevirtual 241, 3) := by decide +kernel
theorem d130_161 : decode (mB 130) 161 = .ok (.ifCond .eq 5, 3) := by decide +kernel
theorem d130_164 : decode (mB 130) 164 = .ok (.iconst 1, 1) := by decide +kernel
theorem d130_165 : decode (mB 130) 165 = .ok (.ireturn, 1) := by decide +kernel
theorem d130_166 : decode (mB 130) 166 = .ok (.iinc 8 (-1), 3) := by decide +kernel
theorem d130_169 : decode (mB 130) 169 = .ok (.goto (-39), 3) := by decide +kernel
theorem d130_172 : decode (mB 130) 172 = .ok (.iinc 7 1, 3) := by decide +kernel
theorem d130_175 : decode (mB 130) 175 = .ok (.goto (-57), 3) := by decide +kernel
theorem d130_178 : decode (mB 130) 178 = .ok (.iconst 0, 1) := by decide +kernel
theorem d130_179 : decode (mB 130) 179 = .ok (.ireturn, 1) := by decide +kernel
theorem v130_0 (L : Nat) (xs : Nat → Int32) : zVal L xs 130 0 (.inl (i_c (.int 1) 1)) := zS_iconst d130_0 (by decide)
theorem v130_1 (L : Nat) (xs : Nat → Int32) : zVal L xs 130 1 (.inl (i_is 7 3)) := zS_istore d130_1
theorem v130_3 (L : Nat) (xs : Nat → Int32) : zVal L xs 130 3 (.inl (i_k [false, false, false, false, false, false, false, false, true, true] (i_il 7 5))) := zS_k (zS_iload d130_3)
theorem v130_5 (L : Nat) (xs : Nat → Int32) : zVal L xs 130 5 (.inl (i_al 0 6)) := zS_aload_n d130_5 rfl
theorem v130_6 (L : Nat) (xs : Nat → Int32) : zVal L xs 130 6 (.inl (i_gf 10 0 9)) := zS_getf d130_6 (zcl10) (by decide) zi10 w778
theorem v130_9 (L : Nat) (xs : Nat → Int32) : zVal L xs 130 9 (.inl (i_f2 (fun x y => decide (y < x)) 114 12)) := zS_icmp_gt d130_9 (by decide)
theorem v130_12 (L : Nat) (xs : Nat → Int32) : zVal L xs 130 12 (.inl (i_al 0 13)) := zS_aload_n d130_12 rfl
theorem v130_13 (L : Nat) (xs : Nat → Int32) : zVal L xs 130 13 (.inl (i_gf 10 41 16)) := zS_getf d130_13 (zcl10) (by decide) zi10 w819
theorem v130_16 (L : Nat) (xs : Nat → Int32) : zVal L xs 130 16 (.inl (i_il 7 18)) := zS_iload d130_16
theorem v130_18 (L : Nat) (xs : Nat → Int32) : zVal L xs 130 18 (.inl (i_c (.int 0) 19)) := zS_iconst d130_18 (by decide)
theorem v130_19 (L : Nat) (xs : Nat → Int32) : zVal L xs 130 19 (.inl (i_pa 0 (fun x => x) 20)) := zS_iast d130_19
theorem v130_20 (L : Nat) (xs : Nat → Int32) : zVal L xs 130 20 (.inl (i_al 0 21)) := zS_aload_n d130_20 rfl
theorem v130_21 (L : Nat) (xs : Nat → Int32) : zVal L xs 130 21 (.inl (i_gf 10 1 24)) := zS_getf d130_21 (zcl10) (by decide) zi10 w779
theorem v130_24 (L : Nat) (xs : Nat → Int32) : zVal L xs 130 24 (.inl (i_c (.int 1) 25)) := zS_iconst d130_24 (by decide)
theorem v130_25 (L : Nat) (xs : Nat → Int32) : zVal L xs 130 25 (.inl (i_bi (fun x y => x - y) 26)) := zS_isub d130_25
theorem v130_26 (L : Nat) (xs : Nat → Int32) : zVal L xs 130 26 (.inl (i_is 8 28)) := zS_istore d130_26
theorem v130_28 (L : Nat) (xs : Nat → Int32) : zVal L xs 130 28 (.inl (i_k [false, false, false, false, false, false, false, false, false, true] (i_il 8 30))) := zS_k (zS_iload d130_28)
theorem v130_30 (L : Nat) (xs : Nat → Int32) : zVal L xs 130 30 (.inl (i_c (.int 1) 31)) := zS_iconst d130_30 (by decide)
theorem v130_31 (L : Nat) (xs : Nat → Int32) : zVal L xs 130 31 (.inl (i_f2 (fun x y => decide (x < y)) 108 34)) := zS_icmp_lt d130_31 (by decide)
theorem v130_34 (L : Nat) (xs : Nat → Int32) : zVal L xs 130 34 (.inl (i_il 4 36)) := zS_iload d130_34
theorem v130_36 (L : Nat) (xs : Nat → Int32) : zVal L xs 130 36 (.inl (i_il 7 38)) := zS_iload d130_36
theorem v130_38 (L : Nat) (xs : Nat → Int32) : zVal L xs 130 38 (.inl (i_f2 (fun x y => decide (y < x)) 108 41)) := zS_icmp_gt d130_38 (by decide)
theorem v130_41 (L : Nat) (xs : Nat → Int32) : zVal L xs 130 41 (.inl (i_al 0 42)) := zS_aload_n d130_41 rfl
theorem v130_42 (L : Nat) (xs : Nat → Int32) : zVal L xs 130 42 (.inl (i_il 7 44)) := zS_iload d130_42
theorem v130_44 (L : Nat) (xs : Nat → Int32) : zVal L xs 130 44 (.inl (i_il 8 46)) := zS_iload d130_44
theorem v130_46 (L : Nat) (xs : Nat → Int32) : zVal L xs 130 46 (.inl (i_il 4 48)) := zS_iload d130_46
theorem v130_48 (L : Nat) (xs : Nat → Int32) : zVal L xs 130 48 (.inl (i_il 5 50)) := zS_iload d130_48
theorem v130_50 (L : Nat) (xs : Nat → Int32) : zVal L xs 130 50 (.inl (i_c (.int 0) 51)) := zS_iconst d130_50 (by decide)
theorem v130_51 (L : Nat) (xs : Nat → Int32) : zVal L xs 130 51 (.inr (.inl (126, 6, 11))) := ⟨by decide +kernel, by decide +kernel, zc_virt d130_51 zcl10 w1039 w1036 w1038 w54 w85 ⟨by decide +kernel, by decide +kernel, by decide +kernel⟩ (by decide) (by decide)⟩
theorem v130_54 (L : Nat) (xs : Nat → Int32) : zVal L xs 130 54 (.inl (i_f1 (fun x => decide (x = 0)) 73 57)) := zS_if_eq d130_54 (by decide)
theorem v130_57 (L : Nat) (xs : Nat → Int32) : zVal L xs 130 57 (.inl (i_al 0 58)) := zS_aload_n d130_57 rfl
theorem v130_58 (L : Nat) (xs : Nat → Int32) : zVal L xs 130 58 (.inl (i_il 1 59)) := zS_iload_n d130_58 rfl
theorem v130_59 (L : Nat) (xs : Nat → Int32) : zVal L xs 130 59 (.inl (i_il 2 60)) := zS_iload_n d130_59 rfl
theorem v130_60 (L : Nat) (xs : Nat → Int32) : zVal L xs 130 60 (.inl (i_il 3 61)) := zS_iload_n d130_60 rfl
theorem v130_61 (L : Nat) (xs : Nat → Int32) : zVal L xs 130 61 (.inl (i_il 7 63)) := zS_iload d130_61
theorem v130_63 (L : Nat) (xs : Nat → Int32) : zVal L xs 130 63 (.inr (.inl (127, 5, 11))) := ⟨by decide +kernel, by decide +kernel, zc_virt d130_63 zcl10 w1043 w1040 w1042 w55 w85 ⟨by decide +kernel, by decide +kernel, by decide +kernel⟩ (by decide) (by decide)⟩
theorem v130_66 (L : Nat) (xs : Nat → Int32) : zVal L xs 130 66 (.inl (i_f1 (fun x => decide (x = 0)) 73 69)) := zS_if_eq d130_66 (by decide)
theorem v130_69 (L : Nat) (xs : Nat → Int32) : zVal L xs 130 69 (.inl (i_c (.int 1) 70)) := zS_iconst d130_69 (by decide)
theorem v130_70 (L : Nat) (xs : Nat → Int32) : zVal L xs 130 70 (.inl (i_go 74)) := zS_goto d130_70 (by decide)
theorem v130_73 (L : Nat) (xs : Nat → Int32) : zVal L xs 130 73 (.inl (i_k [false, false, false, false, false, false, false, false, false, true] (i_c (.int 0) 74))) := zS_k (zS_iconst d130_73 (by decide))
theorem v130_74 (L : Nat) (xs : Nat → Int32) : zVal L xs 130 74 (.inl (i_k [false, false, false, false, false, false, false, false, false, true] (i_is 9 76))) := zS_k (zS_istore d130_74)
theorem v130_76 (L : Nat) (xs : Nat → Int32) : zVal L xs 130 76 (.inl (i_al 0 77)) := zS_aload_n d130_76 rfl
theorem v130_77 (L : Nat) (xs : Nat → Int32) : zVal L xs 130 77 (.inl (i_gf 10 41 80)) := zS_getf d130_77 (zcl10) (by decide) zi10 w819
theorem v130_80 (L : Nat) (xs : Nat → Int32) : zVal L xs 130 80 (.inl (i_il 7 82)) := zS_iload d130_80
theorem v130_82 (L : Nat) (xs : Nat → Int32) : zVal L xs 130 82 (.inl (i_il 9 84)) := zS_iload d130_82
theorem v130_84 (L : Nat) (xs : Nat → Int32) : zVal L xs 130 84 (.inl (i_f1 (fun x => decide (x = 0)) 94 87)) := zS_if_eq d130_84 (by decide)
theorem v130_87 (L : Nat) (xs : Nat → Int32) : zVal L xs 130 87 (.inl (i_il 8 89)) := zS_iload d130_87
theorem v130_89 (L : Nat) (xs : Nat → Int32) : zVal L xs 130 89 (.inl (i_c (.int 1) 90)) := zS_iconst d130_89 (by decide)
theorem v130_90 (L : Nat) (xs : Nat → Int32) : zVal L xs 130 90 (.inl (i_bi (fun x y => x + y) 91)) := zS_iadd d130_90
theorem v130_91 (L : Nat) (xs : Nat → Int32) : zVal L xs 130 91 (.inl (i_go 101)) := zS_goto d130_91 (by decide)
theorem v130_94 (L : Nat) (xs : Nat → Int32) : zVal L xs 130 94 (.inl (i_al 0 95)) := zS_aload_n d130_94 rfl
theorem v130_95 (L : Nat) (xs : Nat → Int32) : zVal L xs 130 95 (.inl (i_gf 10 41 98)) := zS_getf d130_95 (zcl10) (by decide) zi10 w819
theorem v130_98 (L : Nat) (xs : Nat → Int32) : zVal L xs 130 98 (.inl (i_il 7 100)) := zS_iload d130_98
theorem v130_100 (L : Nat) (xs : Nat → Int32) : zVal L xs 130 100 (.inl (i_ga 0 101)) := zS_iald d130_100
theorem v130_101 (L : Nat) (xs : Nat → Int32) : zVal L xs 130 101 (.inl (i_k [false, false, false, false, false, false, false, false, false, true] (i_pa 0 (fun x => x) 102))) := zS_k (zS_iast d130_101)
theorem v130_102 (L : Nat) (xs : Nat → Int32) : zVal L xs 130 102 (.inl (i_in 8 (-1) 105)) := zS_iinc d130_102 (by decide)
theorem v130_105 (L : Nat) (xs : Nat → Int32) : zVal L xs 130 105 (.inl (i_go 28)) := zS_goto d130_105 (by decide)
theorem v130_108 (L : Nat) (xs : Nat → Int32) : zVal L xs 130 108 (.inl (i_k [false, false, false, false, false, false, false, false, true, true] (i_in 7 1 111))) := zS_k (zS_iinc d130_108 (by decide))
theorem v130_111 (L : Nat) (xs : Nat → Int32) : zVal L xs 130 111 (.inl (i_go 3)) := zS_goto d130_111 (by decide)
theorem v130_114 (L : Nat) (xs : Nat → Int32) : zVal L xs 130 114 (.inl (i_il 6 116)) := zS_iload d130_114
theorem v130_116 (L : Nat) (xs : Nat → Int32) : zVal L xs 130 116 (.inl (i_is 7 118)) := zS_istore d130_116
theorem v130_118 (L : Nat) (xs : Nat → Int32) : zVal L xs 130 118 (.inl (i_k [false, true, true, true, true, true, true, false, true, true] (i_il 7 120))) := zS_k (zS_iload d130_118)
theorem v130_120 (L : Nat) (xs : Nat → Int32) : zVal L xs 130 120 (.inl (i_c (.int 3) 121)) := zS_iconst d130_120 (by decide)
theorem v130_121 (L : Nat) (xs : Nat → Int32) : zVal L xs 130 121 (.inl (i_f2 (fun x y => decide (y ≤ x)) 178 124)) := zS_icmp_ge d130_121 (by decide)
theorem v130_124 (L : Nat) (xs : Nat → Int32) : zVal L xs 130 124 (.inl (i_al 0 125)) := zS_aload_n d130_124 rfl
theorem v130_125 (L : Nat) (xs : Nat → Int32) : zVal L xs 130 125 (.inl (i_gf 10 0 128)) := zS_getf d130_125 (zcl10) (by decide) zi10 w778
theorem v130_128 (L : Nat) (xs : Nat → Int32) : zVal L xs 130 128 (.inl (i_is 8 130)) := zS_istore d130_128
theorem v130_130 (L : Nat) (xs : Nat → Int32) : zVal L xs 130 130 (.inl (i_k [false, true, true, true, true, true, true, false, false, true] (i_il 8 132))) := zS_k (zS_iload d130_130)
theorem v130_132 (L : Nat) (xs : Nat → Int32) : zVal L xs 130 132 (.inl (i_c (.int 1) 133)) := zS_iconst d130_132 (by decide)
theorem v130_133 (L : Nat) (xs : Nat → Int32) : zVal L xs 130 133 (.inl (i_f2 (fun x y => decide (x < y)) 172 136)) := zS_icmp_lt d130_133 (by decide)
theorem v130_136 (L : Nat) (xs : Nat → Int32) : zVal L xs 130 136 (.inl (i_al 0 137)) := zS_aload_n d130_136 rfl
theorem v130_137 (L : Nat) (xs : Nat → Int32) : zVal L xs 130 137 (.inl (i_gf 10 41 140)) := zS_getf d130_137 (zcl10) (by decide) zi10 w819
theorem v130_140 (L : Nat) (xs : Nat → Int32) : zVal L xs 130 140 (.inl (i_il 8 142)) := zS_iload d130_140
theorem v130_142 (L : Nat) (xs : Nat → Int32) : zVal L xs 130 142 (.inl (i_ga 0 143)) := zS_iald d130_142
theorem v130_143 (L : Nat) (xs : Nat → Int32) : zVal L xs 130 143 (.inl (i_f1 (fun x => decide (x ≤ 0)) 166 146)) := zS_if_le d130_143 (by decide)
theorem v130_146 (L : Nat) (xs : Nat → Int32) : zVal L xs 130 146 (.inl (i_al 0 147)) := zS_aload_n d130_146 rfl
theorem v130_147 (L : Nat) (xs : Nat → Int32) : zVal L xs 130 147 (.inl (i_il 7 149)) := zS_iload d130_147
theorem v130_149 (L : Nat) (xs : Nat → Int32) : zVal L xs 130 149 (.inl (i_il 8 151)) := zS_iload d130_149
theorem v130_151 (L : Nat) (xs : Nat → Int32) : zVal L xs 130 151 (.inl (i_al 0 152)) := zS_aload_n d130_151 rfl
theorem v130_152 (L : Nat) (xs : Nat → Int32) : zVal L xs 130 152 (.inl (i_gf 10 41 155)) := zS_getf d130_152 (zcl10) (by decide) zi10 w819
theorem v130_155 (L : Nat) (xs : Nat → Int32) : zVal L xs 130 155 (.inl (i_il 8 157)) := zS_iload d130_155
theorem v130_157 (L : Nat) (xs : Nat → Int32) : zVal L xs 130 157 (.inl (i_ga 0 158)) := zS_iald d130_157
theorem v130_158 (L : Nat) (xs : Nat → Int32) : zVal L xs 130 158 (.inr (.inl (129, 4, 11))) := ⟨by decide +kernel, by decide +kernel, zc_virt d130_158 zcl10 w1051 w1048 w1050 w57 w85 ⟨by decide +kernel, by decide +kernel, by decide +kernel⟩ (by decide) (by decide)⟩
theorem v130_161 (L : Nat) (xs : Nat → Int32) : zVal L xs 130 161 (.inl (i_f1 (fun x => decide (x = 0)) 166 164)) := zS_if_eq d130_161 (by decide)
theorem v130_164 (L : Nat) (xs : Nat → Int32) : zVal L xs 130 164 (.inl (i_c (.int 1) 165)) := zS_iconst d130_164 (by decide)
theorem v130_165 (L : Nat) (xs : Nat → Int32) : zVal L xs 130 165 (.inr (.inr 2)) := zr_2 d130_165 rfl
theorem v130_166 (L : Nat) (xs : Nat → Int32) : zVal L xs 130 166 (.inl (i_k [false, true, true, true, true, true, true, false, false, true] (i_in 8 (-1) 169))) := zS_k (zS_iinc d130_166 (by decide))
theorem v130_169 (L : Nat) (xs : Nat → Int32) : zVal L xs 130 169 (.inl (i_go 130)) := zS_goto d130_169 (by decide)
theorem v130_172 (L : Nat) (xs : Nat → Int32) : zVal L xs 130 172 (.inl (i_in 7 1 175)) := zS_iinc d130_172 (by decide)
theorem v130_175 (L : Nat) (xs : Nat → Int32) : zVal L xs 130 175 (.inl (i_go 118)) := zS_goto d130_175 (by decide)
theorem v130_178 (L : Nat) (xs : Nat → Int32) : zVal L xs 130 178 (.inl (i_c (.int 0) 179)) := zS_iconst d130_178 (by decide)
theorem v130_179 (L : Nat) (xs : Nat → Int32) : zVal L xs 130 179 (.inr (.inr 2)) := zr_2 d130_179 rfl
theorem vt130 (L : Nat) (xs : Nat → Int32) : zAll (fun x => zVal L xs 130 x.1 x.2) (tb130) := ⟨v130_0 L xs, v130_1 L xs, v130_3 L xs, v130_5 L xs, v130_6 L xs, v130_9 L xs, v130_12 L xs, v130_13 L xs, v130_16 L xs, v130_18 L xs, v130_19 L xs, v130_20 L xs, v130_21 L xs, v130_24 L xs, v130_25 L xs, v130_26 L xs, v130_28 L xs, v130_30 L xs, v130_31 L xs, v130_34 L xs, v130_36 L xs, v130_38 L xs, v130_41 L xs, v130_42 L xs, v130_44 L xs, v130_46 L xs, v130_48 L xs, v130_50 L xs, v130_51 L xs, v130_54 L xs, v130_57 L xs, v130_58 L xs, v130_59 L xs, v130_60 L xs, v130_61 L xs, v130_63 L xs, v130_66 L xs, v130_69 L xs, v130_70 L xs, v130_73 L xs, v130_74 L xs, v130_76 L xs, v130_77 L xs, v130_80 L xs, v130_82 L xs, v130_84 L xs, v130_87 L xs, v130_89 L xs, v130_90 L xs, v130_91 L xs, v130_94 L xs, v130_95 L xs, v130_98 L xs, v130_100 L xs, v130_101 L xs, v130_102 L xs, v130_105 L xs, v130_108 L xs, v130_111 L xs, v130_114 L xs, v130_116 L xs, v130_118 L xs, v130_120 L xs, v130_121 L xs, v130_124 L xs, v130_125 L xs, v130_128 L xs, v130_130 L xs, v130_132 L xs, v130_133 L xs, v130_136 L xs, v130_137 L xs, v130_140 L xs, v130_142 L xs, v130_143 L xs, v130_146 L xs, v130_147 L xs, v130_149 L xs, v130_151 L xs, v130_152 L xs, v130_155 L xs, v130_157 L xs, v130_158 L xs, v130_161 L xs, v130_164 L xs, v130_165 L xs, v130_166 L xs, v130_169 L xs, v130_172 L xs, v130_175 L xs, v130_178 L xs, v130_179 L xs, trivial⟩
