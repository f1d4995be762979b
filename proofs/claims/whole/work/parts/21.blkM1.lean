theorem dX12_isBook_0 : decode cX12_isBook 0 = .ok (.aload_n 0, 1) := by decide +kernel
theorem dX12_isBook_1 : decode cX12_isBook 1 = .ok (.getfield 302, 3) := by decide +kernel
theorem dX12_isBook_4 : decode cX12_isBook 4 = .ok (.ifCond .eq 19, 3) := by decide +kernel
theorem dX12_isBook_7 : decode cX12_isBook 7 = .ok (.iload_n 1, 1) := by decide +kernel
theorem dX12_isBook_8 : decode cX12_isBook 8 = .ok (.i2l, 1) := by decide +kernel
theorem dX12_isBook_9 : decode cX12_isBook 9 = .ok (.lconst 0, 1) := by decide +kernel
theorem dX12_isBook_10 : decode cX12_isBook 10 = .ok (.ldc2_w 312, 3) := by decide +kernel
theorem dX12_isBook_13 : decode cX12_isBook 13 = .ok (.invokestatic 238, 3) := by decide +kernel
theorem dX12_isBook_16 : decode cX12_isBook 16 = .ok (.ifCond .eq 7, 3) := by decide +kernel
theorem dX12_isBook_19 : decode cX12_isBook 19 = .ok (.iconst 1, 1) := by decide +kernel
theorem dX12_isBook_20 : decode cX12_isBook 20 = .ok (.goto 4, 3) := by decide +kernel
theorem dX12_isBook_23 : decode cX12_isBook 23 = .ok (.iconst 0, 1) := by decide +kernel
theorem dX12_isBook_24 : decode cX12_isBook 24 = .ok (.ireturn, 1) := by decide +kernel
set_option maxRecDepth 20000 in
theorem bk_X12_isBook_0 {d : Nat} {w : hb_W} {Q : Option hb_V → hb_W → Prop} {x1 : Int32} (h : (((hb_fI w 12 30 0) = 0) → Q (some (hb_i (0 : Int32))) w) ∧ ((¬ (hb_fI w 12 30 0) = 0) → hb_O yX12_isIn cX12_isIn 6 (some .boolean) d [hb_l x1.toInt64, hb_l (0 : Int64), hb_l (2 : Int64)] w (fun rv w1 => hb_R yX12_isBook cX12_isBook 2 (some .boolean) (d + 1) 16 [some (hb_r 12 0 0), some (hb_i x1)] (rv.toList ++ []) w1 Q))) : hb_R yX12_isBook cX12_isBook 2 (some .boolean) (d + 1) 0 [some (hb_r 12 0 0), some (hb_i x1)] [] w Q := by
  refine hb_aload_n (pc := 0) (i := 0) dX12_isBook_0 rfl rfl ?_
  refine hb_getIx (pc := 1) (x := hb_fI w 12 30 0) dX12_isBook_1 fw_X12_302 cw_12 rfl (by decide) rfl rfl ?_
  refine hb_if_eq (pc := 4) (tgt := 23) dX12_isBook_4 (by decide) (fun c1 => ?_) (fun c1 => ?_)
  · have ht1 := h.1 c1
    refine hb_iconst (pc := 23) (v := 0) dX12_isBook_23 (by decide) ?_
    exact hb_zret (pc := 24) dX12_isBook_24 rfl (Or.inl rfl) ht1
  · have ht1 := h.2 c1
    refine hb_iload_n (pc := 7) (i := 1) dX12_isBook_7 rfl rfl ?_
    refine hb_i2l (pc := 8) dX12_isBook_8 ?_
    refine hb_lconst (pc := 9) (v := 0) dX12_isBook_9 (by decide) ?_
    refine hb_ldc2 (pc := 10) (v := 2) dX12_isBook_10 kc_X12_312 ?_
    exact hb_callS (pc := 13) (As := [hb_l x1.toInt64, hb_l (0 : Int64), hb_l (2 : Int64)]) (st := []) dX12_isBook_13 ml_X12_238 mf_X12_isIn ms_X12_isIn rfl rfl (Nat.le_of_ble_eq_true rfl) (Nat.le_of_ble_eq_true rfl) ht1 (fun _ _ q => q)
set_option maxRecDepth 20000 in
theorem bk_X12_isBook_16 {d : Nat} {w : hb_W} {Q : Option hb_V → hb_W → Prop} {x1 : Int32} {xs0 : Int32} (h : ((xs0 = 0) → Q (some (hb_i (0 : Int32))) w) ∧ ((¬ xs0 = 0) → Q (some (hb_i (1 : Int32))) w)) : hb_R yX12_isBook cX12_isBook 2 (some .boolean) (d + 1) 16 [some (hb_r 12 0 0), some (hb_i x1)] [hb_i xs0] w Q := by
  refine hb_if_eq (pc := 16) (tgt := 23) dX12_isBook_16 (by decide) (fun c1 => ?_) (fun c1 => ?_)
  · have ht1 := h.1 c1
    refine hb_iconst (pc := 23) (v := 0) dX12_isBook_23 (by decide) ?_
    exact hb_zret (pc := 24) dX12_isBook_24 rfl (Or.inl rfl) ht1
  · have ht1 := h.2 c1
    refine hb_iconst (pc := 19) (v := 1) dX12_isBook_19 (by decide) ?_
    refine hb_goto (pc := 20) (tgt := 24) dX12_isBook_20 (by decide) ?_
    exact hb_zret (pc := 24) dX12_isBook_24 rfl (Or.inr rfl) ht1
theorem dX12_isHood_0 : decode cX12_isHood 0 = .ok (.iload_n 1, 1) := by decide +kernel
theorem dX12_isHood_1 : decode cX12_isHood 1 = .ok (.i2l, 1) := by decide +kernel
theorem dX12_isHood_2 : decode cX12_isHood 2 = .ok (.lconst 0, 1) := by decide +kernel
theorem dX12_isHood_3 : decode cX12_isHood 3 = .ok (.ldc2_w 314, 3) := by decide +kernel
theorem dX12_isHood_6 : decode cX12_isHood 6 = .ok (.invokestatic 238, 3) := by decide +kernel
theorem dX12_isHood_9 : decode cX12_isHood 9 = .ok (.ireturn, 1) := by decide +kernel
set_option maxRecDepth 20000 in
theorem bk_X12_isHood_0 {d : Nat} {w : hb_W} {Q : Option hb_V → hb_W → Prop} {x1 : Int32} (h : hb_O yX12_isIn cX12_isIn 6 (some .boolean) d [hb_l x1.toInt64, hb_l (0 : Int64), hb_l (63 : Int64)] w (fun rv w1 => hb_R yX12_isHood cX12_isHood 2 (some .boolean) (d + 1) 9 [some (hb_r 12 0 0), some (hb_i x1)] (rv.toList ++ []) w1 Q)) : hb_R yX12_isHood cX12_isHood 2 (some .boolean) (d + 1) 0 [some (hb_r 12 0 0), some (hb_i x1)] [] w Q := by
  refine hb_iload_n (pc := 0) (i := 1) dX12_isHood_0 rfl rfl ?_
  refine hb_i2l (pc := 1) dX12_isHood_1 ?_
  refine hb_lconst (pc := 2) (v := 0) dX12_isHood_2 (by decide) ?_
  refine hb_ldc2 (pc := 3) (v := 63) dX12_isHood_3 kc_X12_314 ?_
  exact hb_callS (pc := 6) (As := [hb_l x1.toInt64, hb_l (0 : Int64), hb_l (63 : Int64)]) (st := []) dX12_isHood_6 ml_X12_238 mf_X12_isIn ms_X12_isIn rfl rfl (Nat.le_of_ble_eq_true rfl) (Nat.le_of_ble_eq_true rfl) h (fun _ _ q => q)
set_option maxRecDepth 20000 in
theorem bk_X12_isHood_9 {d : Nat} {w : hb_W} {Q : Option hb_V → hb_W → Prop} {x1 : Int32} {xs0 : Int32} (h : (xs0 = 0 ∨ xs0 = 1) ∧ Q (some (hb_i xs0)) w) : hb_R yX12_isHood cX12_isHood 2 (some .boolean) (d + 1) 9 [some (hb_r 12 0 0), some (hb_i x1)] [hb_i xs0] w Q := by
  exact hb_zret (pc := 9) dX12_isHood_9 rfl h.1 h.2
theorem dX12_hoodOf_0 : decode cX12_hoodOf 0 = .ok (.aload_n 0, 1) := by decide +kernel
theorem dX12_hoodOf_1 : decode cX12_hoodOf 1 = .ok (.getfield 69, 3) := by decide +kernel
theorem dX12_hoodOf_4 : decode cX12_hoodOf 4 = .ok (.iconst 3, 1) := by decide +kernel
theorem dX12_hoodOf_5 : decode cX12_hoodOf 5 = .ok (.iload_n 1, 1) := by decide +kernel
theorem dX12_hoodOf_6 : decode cX12_hoodOf 6 = .ok (.imul, 1) := by decide +kernel
theorem dX12_hoodOf_7 : decode cX12_hoodOf 7 = .ok (.iaload, 1) := by decide +kernel
theorem dX12_hoodOf_8 : decode cX12_hoodOf 8 = .ok (.ireturn, 1) := by decide +kernel
set_option maxRecDepth 20000 in
theorem bk_X12_hoodOf_0 {d : Nat} {w : hb_W} {Q : Option hb_V → hb_W → Prop} {x1 : Int32} (h : vp_in ((3 : Int32) * x1) 1203 ∧ (Q (some (hb_i (hb_aI w 12 19 0 ((3 : Int32) * x1).toNatClampNeg))) w)) : hb_R yX12_hoodOf cX12_hoodOf 2 (some .int) d 0 [some (hb_r 12 0 0), some (hb_i x1)] [] w Q := by
  refine hb_aload_n (pc := 0) (i := 0) dX12_hoodOf_0 rfl rfl ?_
  refine hb_getR (pc := 1) (g1 := 0) dX12_hoodOf_1 fw_X12_69 cw_12 rfl (by decide) rfl (by decide) rfl ?_
  refine hb_iconst (pc := 4) (v := 3) dX12_hoodOf_4 (by decide) ?_
  refine hb_iload_n (pc := 5) (i := 1) dX12_hoodOf_5 rfl rfl ?_
  refine hb_imul (pc := 6) dX12_hoodOf_6 ?_
  obtain ⟨ho1, hr1⟩ := h
  refine hb_ialdx (pc := 7) (x := hb_aI w 12 19 0 ((3 : Int32) * x1).toNatClampNeg) dX12_hoodOf_7 rfl (by decide) ho1 rfl ?_
  exact hb_iret (pc := 8) dX12_hoodOf_8 rfl hr1
theorem dX12_isOf_0 : decode cX12_isOf 0 = .ok (.iload_n 2, 1) := by decide +kernel
theorem dX12_isOf_1 : decode cX12_isOf 1 = .ok (.iconst 2, 1) := by decide +kernel
theorem dX12_isOf_2 : decode cX12_isOf 2 = .ok (.if_icmp .eq 17, 3) := by decide +kernel
theorem dX12_isOf_5 : decode cX12_isOf 5 = .ok (.aload_n 0, 1) := by decide +kernel
theorem dX12_isOf_6 : decode cX12_isOf 6 = .ok (.getfield 69, 3) := by decide +kernel
theorem dX12_isOf_9 : decode cX12_isOf 9 = .ok (.iconst 3, 1) := by decide +kernel
theorem dX12_isOf_10 : decode cX12_isOf 10 = .ok (.iload_n 1, 1) := by decide +kernel
theorem dX12_isOf_11 : decode cX12_isOf 11 = .ok (.imul, 1) := by decide +kernel
theorem dX12_isOf_12 : decode cX12_isOf 12 = .ok (.iconst 2, 1) := by decide +kernel
theorem dX12_isOf_13 : decode cX12_isOf 13 = .ok (.iadd, 1) := by decide +kernel
theorem dX12_isOf_14 : decode cX12_isOf 14 = .ok (.iaload, 1) := by decide +kernel
theorem dX12_isOf_15 : decode cX12_isOf 15 = .ok (.iload_n 2, 1) := by decide +kernel
theorem dX12_isOf_16 : decode cX12_isOf 16 = .ok (.if_icmp .ne 7, 3) := by decide +kernel
theorem dX12_isOf_19 : decode cX12_isOf 19 = .ok (.iconst 1, 1) := by decide +kernel
theorem dX12_isOf_20 : decode cX12_isOf 20 = .ok (.goto 4, 3) := by decide +kernel
theorem dX12_isOf_23 : decode cX12_isOf 23 = .ok (.iconst 0, 1) := by decide +kernel
theorem dX12_isOf_24 : decode cX12_isOf 24 = .ok (.ireturn, 1) := by decide +kernel
set_option maxRecDepth 20000 in
theorem bk_X12_isOf_0 {d : Nat} {w : hb_W} {Q : Option hb_V → hb_W → Prop} {x1 : Int32} {x2 : Int32} (h : ((x2 = (2 : Int32)) → Q (some (hb_i (1 : Int32))) w) ∧ ((¬ x2 = (2 : Int32)) → vp_in (((3 : Int32) * x1) + (2 : Int32)) 1203 ∧ (((¬ (hb_aI w 12 19 0 (((3 : Int32) * x1) + (2 : Int32)).toNatClampNeg) = x2) → Q (some (hb_i (0 : Int32))) w) ∧ (((hb_aI w 12 19 0 (((3 : Int32) * x1) + (2 : Int32)).toNatClampNeg) = x2) → Q (some (hb_i (1 : Int32))) w)))) : hb_R yX12_isOf cX12_isOf 3 (some .boolean) d 0 [some (hb_r 12 0 0), some (hb_i x1), some (hb_i x2)] [] w Q := by
  refine hb_iload_n (pc := 0) (i := 2) dX12_isOf_0 rfl rfl ?_
  refine hb_iconst (pc := 1) (v := 2) dX12_isOf_1 (by decide) ?_
  refine hb_icmp_eq (pc := 2) (tgt := 19) dX12_isOf_2 (by decide) (fun c1 => ?_) (fun c1 => ?_)
  · have ht1 := h.1 c1
    refine hb_iconst (pc := 19) (v := 1) dX12_isOf_19 (by decide) ?_
    refine hb_goto (pc := 20) (tgt := 24) dX12_isOf_20 (by decide) ?_
    exact hb_zret (pc := 24) dX12_isOf_24 rfl (Or.inr rfl) ht1
  · have ht1 := h.2 c1
    refine hb_aload_n (pc := 5) (i := 0) dX12_isOf_5 rfl rfl ?_
    refine hb_getR (pc := 6) (g1 := 0) dX12_isOf_6 fw_X12_69 cw_12 rfl (by decide) rfl (by decide) rfl ?_
    refine hb_iconst (pc := 9) (v := 3) dX12_isOf_9 (by decide) ?_
    refine hb_iload_n (pc := 10) (i := 1) dX12_isOf_10 rfl rfl ?_
    refine hb_imul (pc := 11) dX12_isOf_11 ?_
    refine hb_iconst (pc := 12) (v := 2) dX12_isOf_12 (by decide) ?_
    refine hb_iadd (pc := 13) dX12_isOf_13 ?_
    obtain ⟨ho2, hr2⟩ := ht1
    refine hb_ialdx (pc := 14) (x := hb_aI w 12 19 0 (((3 : Int32) * x1) + (2 : Int32)).toNatClampNeg) dX12_isOf_14 rfl (by decide) ho2 rfl ?_
    refine hb_iload_n (pc := 15) (i := 2) dX12_isOf_15 rfl rfl ?_
    refine hb_icmp_ne (pc := 16) (tgt := 23) dX12_isOf_16 (by decide) (fun c3 => ?_) (fun c3 => ?_)
    · have ht3 := hr2.1 c3
      refine hb_iconst (pc := 23) (v := 0) dX12_isOf_23 (by decide) ?_
      exact hb_zret (pc := 24) dX12_isOf_24 rfl (Or.inl rfl) ht3
    · have ht3 := hr2.2 c3
      refine hb_iconst (pc := 19) (v := 1) dX12_isOf_19 (by decide) ?_
      refine hb_goto (pc := 20) (tgt := 24) dX12_isOf_20 (by decide) ?_
      exact hb_zret (pc := 24) dX12_isOf_24 rfl (Or.inr rfl) ht3
theorem dX12_codesTell_0 : decode cX12_codesTell 0 = .ok (.aload_n 0, 1) := by decide +kernel
theorem dX12_codesTell_1 : decode cX12_codesTell 1 = .ok (.iload_n 1, 1) := by decide +kernel
theorem dX12_codesTell_2 : decode cX12_codesTell 2 = .ok (.bipush 20, 2) := by decide +kernel
theorem dX12_codesTell_4 : decode cX12_codesTell 4 = .ok (.if_icmp .ne 7, 3) := by decide +kernel
theorem dX12_codesTell_7 : decode cX12_codesTell 7 = .ok (.iconst 1, 1) := by decide +kernel
theorem dX12_codesTell_8 : decode cX12_codesTell 8 = .ok (.goto 4, 3) := by decide +kernel
theorem dX12_codesTell_11 : decode cX12_codesTell 11 = .ok (.iconst 0, 1) := by decide +kernel
theorem dX12_codesTell_12 : decode cX12_codesTell 12 = .ok (.putfield 242, 3) := by decide +kernel
theorem dX12_codesTell_15 : decode cX12_codesTell 15 = .ok (.aload_n 0, 1) := by decide +kernel
theorem dX12_codesTell_16 : decode cX12_codesTell 16 = .ok (.iconst 0, 1) := by decide +kernel
theorem dX12_codesTell_17 : decode cX12_codesTell 17 = .ok (.putfield 316, 3) := by decide +kernel
theorem dX12_codesTell_20 : decode cX12_codesTell 20 = .ok (.aload_n 0, 1) := by decide +kernel
theorem dX12_codesTell_21 : decode cX12_codesTell 21 = .ok (.getfield 57, 3) := by decide +kernel
theorem dX12_codesTell_24 : decode cX12_codesTell 24 = .ok (.bipush 21, 2) := by decide +kernel
theorem dX12_codesTell_26 : decode cX12_codesTell 26 = .ok (.iload_n 1, 1) := by decide +kernel
theorem dX12_codesTell_27 : decode cX12_codesTell 27 = .ok (.iadd, 1) := by decide +kernel
theorem dX12_codesTell_28 : decode cX12_codesTell 28 = .ok (.iaload, 1) := by decide +kernel
theorem dX12_codesTell_29 : decode cX12_codesTell 29 = .ok (.istore_n 2, 1) := by decide +kernel
theorem dX12_codesTell_30 : decode cX12_codesTell 30 = .ok (.iload_n 2, 1) := by decide +kernel
theorem dX12_codesTell_31 : decode cX12_codesTell 31 = .ok (.aload_n 0, 1) := by decide +kernel
theorem dX12_codesTell_32 : decode cX12_codesTell 32 = .ok (.getfield 60, 3) := by decide +kernel
theorem dX12_codesTell_35 : decode cX12_codesTell 35 = .ok (.bipush 21, 2) := by decide +kernel
theorem dX12_codesTell_37 : decode cX12_codesTell 37 = .ok (.iload_n 1, 1) := by decide +kernel
theorem dX12_codesTell_38 : decode cX12_codesTell 38 = .ok (.iadd, 1) := by decide +kernel
theorem dX12_codesTell_39 : decode cX12_codesTell 39 = .ok (.iaload, 1) := by decide +kernel
theorem dX12_codesTell_40 : decode cX12_codesTell 40 = .ok (.if_icmp .ge 67, 3) := by decide +kernel
theorem dX12_codesTell_43 : decode cX12_codesTell 43 = .ok (.aload_n 0, 1) := by decide +kernel
theorem dX12_codesTell_44 : decode cX12_codesTell 44 = .ok (.getfield 63, 3) := by decide +kernel
theorem dX12_codesTell_47 : decode cX12_codesTell 47 = .ok (.sipush 1600, 3) := by decide +kernel
theorem dX12_codesTell_50 : decode cX12_codesTell 50 = .ok (.iload_n 2, 1) := by decide +kernel
theorem dX12_codesTell_51 : decode cX12_codesTell 51 = .ok (.iadd, 1) := by decide +kernel
theorem dX12_codesTell_52 : decode cX12_codesTell 52 = .ok (.iaload, 1) := by decide +kernel
theorem dX12_codesTell_53 : decode cX12_codesTell 53 = .ok (.istore_n 3, 1) := by decide +kernel
theorem dX12_codesTell_54 : decode cX12_codesTell 54 = .ok (.iload_n 3, 1) := by decide +kernel
theorem dX12_codesTell_55 : decode cX12_codesTell 55 = .ok (.sipush 1000, 3) := by decide +kernel
theorem dX12_codesTell_58 : decode cX12_codesTell 58 = .ok (.if_icmp .lt 16, 3) := by decide +kernel
theorem dX12_codesTell_61 : decode cX12_codesTell 61 = .ok (.aload_n 0, 1) := by decide +kernel
theorem dX12_codesTell_62 : decode cX12_codesTell 62 = .ok (.iload_n 3, 1) := by decide +kernel
theorem dX12_codesTell_63 : decode cX12_codesTell 63 = .ok (.sipush 1000, 3) := by decide +kernel
theorem dX12_codesTell_66 : decode cX12_codesTell 66 = .ok (.isub, 1) := by decide +kernel
theorem dX12_codesTell_67 : decode cX12_codesTell 67 = .ok (.i2l, 1) := by decide +kernel
theorem dX12_codesTell_68 : decode cX12_codesTell 68 = .ok (.invokevirtual 319, 3) := by decide +kernel
theorem dX12_codesTell_71 : decode cX12_codesTell 71 = .ok (.goto 30, 3) := by decide +kernel
theorem dX12_codesTell_74 : decode cX12_codesTell 74 = .ok (.iload_n 3, 1) := by decide +kernel
theorem dX12_codesTell_75 : decode cX12_codesTell 75 = .ok (.bipush 40, 2) := by decide +kernel
theorem dX12_codesTell_77 : decode cX12_codesTell 77 = .ok (.if_icmp .lt 19, 3) := by decide +kernel
theorem dX12_codesTell_80 : decode cX12_codesTell 80 = .ok (.aload_n 0, 1) := by decide +kernel
theorem dX12_codesTell_81 : decode cX12_codesTell 81 = .ok (.aload_n 0, 1) := by decide +kernel
theorem dX12_codesTell_82 : decode cX12_codesTell 82 = .ok (.iload_n 3, 1) := by decide +kernel
theorem dX12_codesTell_83 : decode cX12_codesTell 83 = .ok (.bipush 40, 2) := by decide +kernel
theorem dX12_codesTell_85 : decode cX12_codesTell 85 = .ok (.isub, 1) := by decide +kernel
theorem dX12_codesTell_86 : decode cX12_codesTell 86 = .ok (.iconst 0, 1) := by decide +kernel
theorem dX12_codesTell_87 : decode cX12_codesTell 87 = .ok (.invokevirtual 323, 3) := by decide +kernel
theorem dX12_codesTell_90 : decode cX12_codesTell 90 = .ok (.invokevirtual 319, 3) := by decide +kernel
theorem dX12_codesTell_93 : decode cX12_codesTell 93 = .ok (.goto 8, 3) := by decide +kernel
theorem dX12_codesTell_96 : decode cX12_codesTell 96 = .ok (.aload_n 0, 1) := by decide +kernel
theorem dX12_codesTell_97 : decode cX12_codesTell 97 = .ok (.iload_n 3, 1) := by decide +kernel
theorem dX12_codesTell_98 : decode cX12_codesTell 98 = .ok (.invokevirtual 327, 3) := by decide +kernel
theorem dX12_codesTell_101 : decode cX12_codesTell 101 = .ok (.iinc 2 1, 3) := by decide +kernel
theorem dX12_codesTell_104 : decode cX12_codesTell 104 = .ok (.goto (-74), 3) := by decide +kernel
theorem dX12_codesTell_107 : decode cX12_codesTell 107 = .ok (.aload_n 0, 1) := by decide +kernel
theorem dX12_codesTell_108 : decode cX12_codesTell 108 = .ok (.getfield 185, 3) := by decide +kernel
theorem dX12_codesTell_111 : decode cX12_codesTell 111 = .ok (.iconst 0, 1) := by decide +kernel
theorem dX12_codesTell_112 : decode cX12_codesTell 112 = .ok (.laload, 1) := by decide +kernel
theorem dX12_codesTell_113 : decode cX12_codesTell 113 = .ok (.lreturn, 1) := by decide +kernel
set_option maxRecDepth 20000 in
theorem bk_X12_codesTell_0 {d : Nat} {w : hb_W} {Q : Option hb_V → hb_W → Prop} {x1 : Int32} (h : ((¬ x1 = (20 : Int32)) → vp_in ((21 : Int32) + x1) 42 ∧ (hb_R yX12_codesTell cX12_codesTell 4 (some .long) (d + 1) 30 [some (hb_r 12 0 0), some (hb_i x1), some (hb_i (hb_aI w 12 15 0 ((21 : Int32) + x1).toNatClampNeg)), none] [] (hb_pI (hb_pI w 12 31 0 (0 : Int32)) 12 86 0 (0 : Int32)) Q)) ∧ ((x1 = (20 : Int32)) → vp_in ((21 : Int32) + x1) 42 ∧ (hb_R yX12_codesTell cX12_codesTell 4 (some .long) (d + 1) 30 [some (hb_r 12 0 0), some (hb_i x1), some (hb_i (hb_aI w 12 15 0 ((21 : Int32) + x1).toNatClampNeg)), none] [] (hb_pI (hb_pI w 12 31 0 (1 : Int32)) 12 86 0 (0 : Int32)) Q))) : hb_R yX12_codesTell cX12_codesTell 4 (some .long) (d + 1) 0 [some (hb_r 12 0 0), some (hb_i x1), none, none] [] w Q := by
  refine hb_aload_n (pc := 0) (i := 0) dX12_codesTell_0 rfl rfl ?_
  refine hb_iload_n (pc := 1) (i := 1) dX12_codesTell_1 rfl rfl ?_
  refine hb_bipush (pc := 2) (v := 20) dX12_codesTell_2 (by decide) ?_
  refine hb_icmp_ne (pc := 4) (tgt := 11) dX12_codesTell_4 (by decide) (fun c1 => ?_) (fun c1 => ?_)
  · have ht1 := h.1 c1
    refine hb_iconst (pc := 11) (v := 0) dX12_codesTell_11 (by decide) ?_
    refine hb_putI (pc := 12) dX12_codesTell_12 fw_X12_242 cw_12 pw_12_31 rfl (by decide) rfl rfl rfl ?_
    refine hb_aload_n (pc := 15) (i := 0) dX12_codesTell_15 rfl rfl ?_
    refine hb_iconst (pc := 16) (v := 0) dX12_codesTell_16 (by decide) ?_
    refine hb_putI (pc := 17) dX12_codesTell_17 fw_X12_316 cw_12 pw_12_86 rfl (by decide) rfl rfl rfl ?_
    refine hb_aload_n (pc := 20) (i := 0) dX12_codesTell_20 rfl rfl ?_
    refine hb_getR (pc := 21) (g1 := 0) dX12_codesTell_21 fw_X12_57 cw_12 rfl (by decide) rfl (by decide) rfl ?_
    refine hb_bipush (pc := 24) (v := 21) dX12_codesTell_24 (by decide) ?_
    refine hb_iload_n (pc := 26) (i := 1) dX12_codesTell_26 rfl rfl ?_
    refine hb_iadd (pc := 27) dX12_codesTell_27 ?_
    obtain ⟨ho2, hr2⟩ := ht1
    refine hb_ialdx (pc := 28) (x := hb_aI w 12 15 0 ((21 : Int32) + x1).toNatClampNeg) dX12_codesTell_28 rfl (by decide) ho2 rfl ?_
    refine hb_istore_n (pc := 29) (i := 2) (ls1 := [some (hb_r 12 0 0), some (hb_i x1), some (hb_i (hb_aI w 12 15 0 ((21 : Int32) + x1).toNatClampNeg)), none]) dX12_codesTell_29 rfl (by decide) rfl ?_
    exact hr2
  · have ht1 := h.2 c1
    refine hb_iconst (pc := 7) (v := 1) dX12_codesTell_7 (by decide) ?_
    refine hb_goto (pc := 8) (tgt := 12) dX12_codesTell_8 (by decide) ?_
    refine hb_putI (pc := 12) dX12_codesTell_12 fw_X12_242 cw_12 pw_12_31 rfl (by decide) rfl rfl rfl ?_
    refine hb_aload_n (pc := 15) (i := 0) dX12_codesTell_15 rfl rfl ?_
    refine hb_iconst (pc := 16) (v := 0) dX12_codesTell_16 (by decide) ?_
    refine hb_putI (pc := 17) dX12_codesTell_17 fw_X12_316 cw_12 pw_12_86 rfl (by decide) rfl rfl rfl ?_
    refine hb_aload_n (pc := 20) (i := 0) dX12_codesTell_20 rfl rfl ?_
    refine hb_getR (pc := 21) (g1 := 0) dX12_codesTell_21 fw_X12_57 cw_12 rfl (by decide) rfl (by decide) rfl ?_
    refine hb_bipush (pc := 24) (v := 21) dX12_codesTell_24 (by decide) ?_
    refine hb_iload_n (pc := 26) (i := 1) dX12_codesTell_26 rfl rfl ?_
    refine hb_iadd (pc := 27) dX12_codesTell_27 ?_
    obtain ⟨ho3, hr3⟩ := ht1
    refine hb_ialdx (pc := 28) (x := hb_aI w 12 15 0 ((21 : Int32) + x1).toNatClampNeg) dX12_codesTell_28 rfl (by decide) ho3 rfl ?_
    refine hb_istore_n (pc := 29) (i := 2) (ls1 := [some (hb_r 12 0 0), some (hb_i x1), some (hb_i (hb_aI w 12 15 0 ((21 : Int32) + x1).toNatClampNeg)), none]) dX12_codesTell_29 rfl (by decide) rfl ?_
    exact hr3
set_option maxRecDepth 20000 in
theorem bk_X12_codesTell_30 {d : Nat} {w : hb_W} {Q : Option hb_V → hb_W → Prop} {x1 : Int32} {x2 : Int32} (h : vp_in ((21 : Int32) + x1) 42 ∧ ((((hb_aI w 12 16 0 ((21 : Int32) + x1).toNatClampNeg) ≤ x2) → Q (some (hb_l (hb_aL w 12 56 0 (0 : Int32).toNatClampNeg))) w) ∧ ((¬ (hb_aI w 12 16 0 ((21 : Int32) + x1).toNatClampNeg) ≤ x2) → vp_in ((1600 : Int32) + x2) 3200 ∧ ((((hb_aI w 12 17 0 ((1600 : Int32) + x2).toNatClampNeg) < (1000 : Int32)) → (((hb_aI w 12 17 0 ((1600 : Int32) + x2).toNatClampNeg) < (40 : Int32)) → hb_O yX12_qJoins cX12_qJoins 6 none d [hb_r 12 0 0, hb_i (hb_aI w 12 17 0 ((1600 : Int32) + x2).toNatClampNeg)] w (fun rv w1 => hb_R yX12_codesTell cX12_codesTell 4 (some .long) (d + 1) 101 [some (hb_r 12 0 0), some (hb_i x1), some (hb_i x2), some (hb_i (hb_aI w 12 17 0 ((1600 : Int32) + x2).toNatClampNeg))] (rv.toList ++ []) w1 Q)) ∧ ((¬ (hb_aI w 12 17 0 ((1600 : Int32) + x2).toNatClampNeg) < (40 : Int32)) → hb_O yX12_qPartOf cX12_qPartOf 3 (some .long) d [hb_r 12 0 0, hb_i ((hb_aI w 12 17 0 ((1600 : Int32) + x2).toNatClampNeg) - (40 : Int32)), hb_i (0 : Int32)] w (fun rv w1 => hb_R yX12_codesTell cX12_codesTell 4 (some .long) (d + 1) 90 [some (hb_r 12 0 0), some (hb_i x1), some (hb_i x2), some (hb_i (hb_aI w 12 17 0 ((1600 : Int32) + x2).toNatClampNeg))] (rv.toList ++ [hb_r 12 0 0]) w1 Q))) ∧ ((¬ (hb_aI w 12 17 0 ((1600 : Int32) + x2).toNatClampNeg) < (1000 : Int32)) → hb_O yX12_qPuts cX12_qPuts 3 none d [hb_r 12 0 0, hb_l (((hb_aI w 12 17 0 ((1600 : Int32) + x2).toNatClampNeg) - (1000 : Int32)).toInt64)] w (fun rv w1 => hb_R yX12_codesTell cX12_codesTell 4 (some .long) (d + 1) 71 [some (hb_r 12 0 0), some (hb_i x1), some (hb_i x2), some (hb_i (hb_aI w 12 17 0 ((1600 : Int32) + x2).toNatClampNeg))] (rv.toList ++ []) w1 Q)))))) : hb_R yX12_codesTell cX12_codesTell 4 (some .long) (d + 1) 30 [some (hb_r 12 0 0), some (hb_i x1), some (hb_i x2), none] [] w Q := by
  refine hb_iload_n (pc := 30) (i := 2) dX12_codesTell_30 rfl rfl ?_
  refine hb_aload_n (pc := 31) (i := 0) dX12_codesTell_31 rfl rfl ?_
  refine hb_getR (pc := 32) (g1 := 0) dX12_codesTell_32 fw_X12_60 cw_12 rfl (by decide) rfl (by decide) rfl ?_
  refine hb_bipush (pc := 35) (v := 21) dX12_codesTell_35 (by decide) ?_
  refine hb_iload_n (pc := 37) (i := 1) dX12_codesTell_37 rfl rfl ?_
  refine hb_iadd (pc := 38) dX12_codesTell_38 ?_
  obtain ⟨ho1, hr1⟩ := h
  refine hb_ialdx (pc := 39) (x := hb_aI w 12 16 0 ((21 : Int32) + x1).toNatClampNeg) dX12_codesTell_39 rfl (by decide) ho1 rfl ?_
  refine hb_icmp_ge (pc := 40) (tgt := 107) dX12_codesTell_40 (by decide) (fun c2 => ?_) (fun c2 => ?_)
  · have ht2 := hr1.1 c2
    refine hb_aload_n (pc := 107) (i := 0) dX12_codesTell_107 rfl rfl ?_
    refine hb_getR (pc := 108) (g1 := 0) dX12_codesTell_108 fw_X12_185 cw_12 rfl (by decide) rfl (by decide) rfl ?_
    refine hb_iconst (pc := 111) (v := 0) dX12_codesTell_111 (by decide) ?_
    refine hb_laldx (pc := 112) (x := hb_aL w 12 56 0 (0 : Int32).toNatClampNeg) dX12_codesTell_112 (n := 1700) rfl (by decide) (by unfold vp_in; decide) rfl ?_
    exact hb_lret (pc := 113) dX12_codesTell_113 rfl ht2
  · have ht2 := hr1.2 c2
    refine hb_aload_n (pc := 43) (i := 0) dX12_codesTell_43 rfl rfl ?_
    refine hb_getR (pc := 44) (g1 := 0) dX12_codesTell_44 fw_X12_63 cw_12 rfl (by decide) rfl (by decide) rfl ?_
    refine hb_sipush (pc := 47) (v := 1600) dX12_codesTell_47 (by decide) ?_
    refine hb_iload_n (pc := 50) (i := 2) dX12_codesTell_50 rfl rfl ?_
    refine hb_iadd (pc := 51) dX12_codesTell_51 ?_
    obtain ⟨ho3, hr3⟩ := ht2
    refine hb_ialdx (pc := 52) (x := hb_aI w 12 17 0 ((1600 : Int32) + x2).toNatClampNeg) dX12_codesTell_52 rfl (by decide) ho3 rfl ?_
    refine hb_istore_n (pc := 53) (i := 3) (ls1 := [some (hb_r 12 0 0), some (hb_i x1), some (hb_i x2), some (hb_i (hb_aI w 12 17 0 ((1600 : Int32) + x2).toNatClampNeg))]) dX12_codesTell_53 rfl (by decide) rfl ?_
    refine hb_iload_n (pc := 54) (i := 3) dX12_codesTell_54 rfl rfl ?_
    refine hb_sipush (pc := 55) (v := 1000) dX12_codesTell_55 (by decide) ?_
    refine hb_icmp_lt (pc := 58) (tgt := 74) dX12_codesTell_58 (by decide) (fun c4 => ?_) (fun c4 => ?_)
    · have ht4 := hr3.1 c4
      refine hb_iload_n (pc := 74) (i := 3) dX12_codesTell_74 rfl rfl ?_
      refine hb_bipush (pc := 75) (v := 40) dX12_codesTell_75 (by decide) ?_
      refine hb_icmp_lt (pc := 77) (tgt := 96) dX12_codesTell_77 (by decide) (fun c5 => ?_) (fun c5 => ?_)
      · have ht5 := ht4.1 c5
        refine hb_aload_n (pc := 96) (i := 0) dX12_codesTell_96 rfl rfl ?_
        refine hb_iload_n (pc := 97) (i := 3) dX12_codesTell_97 rfl rfl ?_
        exact hb_callV (pc := 98) (As := [hb_i (hb_aI w 12 17 0 ((1600 : Int32) + x2).toNatClampNeg)]) (st := []) dX12_codesTell_98 ml_X12_327 mf_X12_qJoins mi_X12_qJoins (ci := 12) rfl rfl (by decide) rfl rfl (Nat.le_of_ble_eq_true rfl) (Nat.le_of_ble_eq_true rfl) ht5 (fun _ _ q => q)
      · have ht5 := ht4.2 c5
        refine hb_aload_n (pc := 80) (i := 0) dX12_codesTell_80 rfl rfl ?_
        refine hb_aload_n (pc := 81) (i := 0) dX12_codesTell_81 rfl rfl ?_
        refine hb_iload_n (pc := 82) (i := 3) dX12_codesTell_82 rfl rfl ?_
        refine hb_bipush (pc := 83) (v := 40) dX12_codesTell_83 (by decide) ?_
        refine hb_isub (pc := 85) dX12_codesTell_85 ?_
        refine hb_iconst (pc := 86) (v := 0) dX12_codesTell_86 (by decide) ?_
        exact hb_callV (pc := 87) (As := [hb_i ((hb_aI w 12 17 0 ((1600 : Int32) + x2).toNatClampNeg) - (40 : Int32)), hb_i (0 : Int32)]) (st := [hb_r 12 0 0]) dX12_codesTell_87 ml_X12_323 mf_X12_qPartOf mi_X12_qPartOf (ci := 12) rfl rfl (by decide) rfl rfl (Nat.le_of_ble_eq_true rfl) (Nat.le_of_ble_eq_true rfl) ht5 (fun _ _ q => q)
    · have ht4 := hr3.2 c4
      refine hb_aload_n (pc := 61) (i := 0) dX12_codesTell_61 rfl rfl ?_
      refine hb_iload_n (pc := 62) (i := 3) dX12_codesTell_62 rfl rfl ?_
      refine hb_sipush (pc := 63) (v := 1000) dX12_codesTell_63 (by decide) ?_
      refine hb_isub (pc := 66) dX12_codesTell_66 ?_
      refine hb_i2l (pc := 67) dX12_codesTell_67 ?_
      exact hb_callV (pc := 68) (As := [hb_l (((hb_aI w 12 17 0 ((1600 : Int32) + x2).toNatClampNeg) - (1000 : Int32)).toInt64)]) (st := []) dX12_codesTell_68 ml_X12_319 mf_X12_qPuts mi_X12_qPuts (ci := 12) rfl rfl (by decide) rfl rfl (Nat.le_of_ble_eq_true rfl) (Nat.le_of_ble_eq_true rfl) ht4 (fun _ _ q => q)
set_option maxRecDepth 20000 in
theorem bk_X12_codesTell_71 {d : Nat} {w : hb_W} {Q : Option hb_V → hb_W → Prop} {x1 : Int32} {x2 : Int32} {x3 : Int32} (h : hb_R yX12_codesTell cX12_codesTell 4 (some .long) (d + 1) 101 [some (hb_r 12 0 0), some (hb_i x1), some (hb_i x2), some (hb_i x3)] [] w Q) : hb_R yX12_codesTell cX12_codesTell 4 (some .long) (d + 1) 71 [some (hb_r 12 0 0), some (hb_i x1), some (hb_i x2), some (hb_i x3)] [] w Q := by
  refine hb_goto (pc := 71) (tgt := 101) dX12_codesTell_71 (by decide) ?_
  exact h
set_option maxRecDepth 20000 in
theorem bk_X12_codesTell_90 {d : Nat} {w : hb_W} {Q : Option hb_V → hb_W → Prop} {x1 : Int32} {x2 : Int32} {x3 : Int32} {ls1 : Int64} (h : hb_O yX12_qPuts cX12_qPuts 3 none d [hb_r 12 0 0, hb_l ls1] w (fun rv w1 => hb_R yX12_codesTell cX12_codesTell 4 (some .long) (d + 1) 93 [some (hb_r 12 0 0), some (hb_i x1), some (hb_i x2), some (hb_i x3)] (rv.toList ++ []) w1 Q)) : hb_R yX12_codesTell cX12_codesTell 4 (some .long) (d + 1) 90 [some (hb_r 12 0 0), some (hb_i x1), some (hb_i x2), some (hb_i x3)] [hb_l ls1, hb_r 12 0 0] w Q := by
  exact hb_callV (pc := 90) (As := [hb_l ls1]) (st := []) dX12_codesTell_90 ml_X12_319 mf_X12_qPuts mi_X12_qPuts (ci := 12) rfl rfl (by decide) rfl rfl (Nat.le_of_ble_eq_true rfl) (Nat.le_of_ble_eq_true rfl) h (fun _ _ q => q)
set_option maxRecDepth 20000 in
theorem bk_X12_codesTell_93 {d : Nat} {w : hb_W} {Q : Option hb_V → hb_W → Prop} {x1 : Int32} {x2 : Int32} {x3 : Int32} (h : hb_R yX12_codesTell cX12_codesTell 4 (some .long) (d + 1) 101 [some (hb_r 12 0 0), some (hb_i x1), some (hb_i x2), some (hb_i x3)] [] w Q) : hb_R yX12_codesTell cX12_codesTell 4 (some .long) (d + 1) 93 [some (hb_r 12 0 0), some (hb_i x1), some (hb_i x2), some (hb_i x3)] [] w Q := by
  refine hb_goto (pc := 93) (tgt := 101) dX12_codesTell_93 (by decide) ?_
  exact h
set_option maxRecDepth 20000 in
theorem bk_X12_codesTell_101 {d : Nat} {w : hb_W} {Q : Option hb_V → hb_W → Prop} {x1 : Int32} {x2 : Int32} {x3 : Int32} (h : hb_R yX12_codesTell cX12_codesTell 4 (some .long) (d + 1) 30 [some (hb_r 12 0 0), some (hb_i x1), some (hb_i (x2 + (1 : Int32))), some (hb_i x3)] [] w Q) : hb_R yX12_codesTell cX12_codesTell 4 (some .long) (d + 1) 101 [some (hb_r 12 0 0), some (hb_i x1), some (hb_i x2), some (hb_i x3)] [] w Q := by
  refine hb_iinc (pc := 101) (v := x2 + (1 : Int32)) (ls1 := [some (hb_r 12 0 0), some (hb_i x1), some (hb_i (x2 + (1 : Int32))), some (hb_i x3)]) dX12_codesTell_101 rfl rfl (by decide) rfl ?_
  refine hb_goto (pc := 104) (tgt := 30) dX12_codesTell_104 (by decide) ?_
  exact h
theorem dX12_markOf_0 : decode cX12_markOf 0 = .ok (.aload_n 0, 1) := by decide +kernel
theorem dX12_markOf_1 : decode cX12_markOf 1 = .ok (.iload_n 1, 1) := by decide +kernel
theorem dX12_markOf_2 : decode cX12_markOf 2 = .ok (.putfield 330, 3) := by decide +kernel
theorem dX12_markOf_5 : decode cX12_markOf 5 = .ok (.aload_n 0, 1) := by decide +kernel
theorem dX12_markOf_6 : decode cX12_markOf 6 = .ok (.iload_n 2, 1) := by decide +kernel
theorem dX12_markOf_7 : decode cX12_markOf 7 = .ok (.putfield 333, 3) := by decide +kernel
theorem dX12_markOf_10 : decode cX12_markOf 10 = .ok (.aload_n 0, 1) := by decide +kernel
theorem dX12_markOf_11 : decode cX12_markOf 11 = .ok (.iload_n 3, 1) := by decide +kernel
theorem dX12_markOf_12 : decode cX12_markOf 12 = .ok (.putfield 336, 3) := by decide +kernel
theorem dX12_markOf_15 : decode cX12_markOf 15 = .ok (.aload_n 0, 1) := by decide +kernel
theorem dX12_markOf_16 : decode cX12_markOf 16 = .ok (.getfield 57, 3) := by decide +kernel
theorem dX12_markOf_19 : decode cX12_markOf 19 = .ok (.bipush 41, 2) := by decide +kernel
theorem dX12_markOf_21 : decode cX12_markOf 21 = .ok (.iaload, 1) := by decide +kernel
theorem dX12_markOf_22 : decode cX12_markOf 22 = .ok (.iconst (-1), 1) := by decide +kernel
theorem dX12_markOf_23 : decode cX12_markOf 23 = .ok (.if_icmp .ne 26, 3) := by decide +kernel
theorem dX12_markOf_26 : decode cX12_markOf 26 = .ok (.iload_n 1, 1) := by decide +kernel
theorem dX12_markOf_27 : decode cX12_markOf 27 = .ok (.i2l, 1) := by decide +kernel
theorem dX12_markOf_28 : decode cX12_markOf 28 = .ok (.ldc2_w 339, 3) := by decide +kernel
theorem dX12_markOf_31 : decode cX12_markOf 31 = .ok (.lmul, 1) := by decide +kernel
theorem dX12_markOf_32 : decode cX12_markOf 32 = .ok (.iload_n 2, 1) := by decide +kernel
theorem dX12_markOf_33 : decode cX12_markOf 33 = .ok (.i2l, 1) := by decide +kernel
theorem dX12_markOf_34 : decode cX12_markOf 34 = .ok (.ldc2_w 341, 3) := by decide +kernel
theorem dX12_markOf_37 : decode cX12_markOf 37 = .ok (.lmul, 1) := by decide +kernel
theorem dX12_markOf_38 : decode cX12_markOf 38 = .ok (.ladd, 1) := by decide +kernel
theorem dX12_markOf_39 : decode cX12_markOf 39 = .ok (.iload_n 3, 1) := by decide +kernel
theorem dX12_markOf_40 : decode cX12_markOf 40 = .ok (.i2l, 1) := by decide +kernel
theorem dX12_markOf_41 : decode cX12_markOf 41 = .ok (.ldc2_w 343, 3) := by decide +kernel
theorem dX12_markOf_44 : decode cX12_markOf 44 = .ok (.lmul, 1) := by decide +kernel
theorem dX12_markOf_45 : decode cX12_markOf 45 = .ok (.ladd, 1) := by decide +kernel
theorem dX12_markOf_46 : decode cX12_markOf 46 = .ok (.goto 9, 3) := by decide +kernel
theorem dX12_markOf_49 : decode cX12_markOf 49 = .ok (.aload_n 0, 1) := by decide +kernel
theorem dX12_markOf_50 : decode cX12_markOf 50 = .ok (.bipush 20, 2) := by decide +kernel
theorem dX12_markOf_52 : decode cX12_markOf 52 = .ok (.invokevirtual 345, 3) := by decide +kernel
theorem dX12_markOf_55 : decode cX12_markOf 55 = .ok (.lstore 4, 2) := by decide +kernel
theorem dX12_markOf_57 : decode cX12_markOf 57 = .ok (.lload 4, 2) := by decide +kernel
theorem dX12_markOf_59 : decode cX12_markOf 59 = .ok (.ldc2_w 349, 3) := by decide +kernel
theorem dX12_markOf_62 : decode cX12_markOf 62 = .ok (.lrem, 1) := by decide +kernel
theorem dX12_markOf_63 : decode cX12_markOf 63 = .ok (.lstore 6, 2) := by decide +kernel
theorem dX12_markOf_65 : decode cX12_markOf 65 = .ok (.lload 6, 2) := by decide +kernel
theorem dX12_markOf_67 : decode cX12_markOf 67 = .ok (.lconst 0, 1) := by decide +kernel
theorem dX12_markOf_68 : decode cX12_markOf 68 = .ok (.lcmp, 1) := by decide +kernel
theorem dX12_markOf_69 : decode cX12_markOf 69 = .ok (.ifCond .ge 12, 3) := by decide +kernel
theorem dX12_markOf_72 : decode cX12_markOf 72 = .ok (.lload 6, 2) := by decide +kernel
theorem dX12_markOf_74 : decode cX12_markOf 74 = .ok (.ldc2_w 349, 3) := by decide +kernel
theorem dX12_markOf_77 : decode cX12_markOf 77 = .ok (.ladd, 1) := by decide +kernel
theorem dX12_markOf_78 : decode cX12_markOf 78 = .ok (.goto 5, 3) := by decide +kernel
theorem dX12_markOf_81 : decode cX12_markOf 81 = .ok (.lload 6, 2) := by decide +kernel
theorem dX12_markOf_83 : decode cX12_markOf 83 = .ok (.l2i, 1) := by decide +kernel
theorem dX12_markOf_84 : decode cX12_markOf 84 = .ok (.ireturn, 1) := by decide +kernel
set_option maxRecDepth 20000 in
theorem bk_X12_markOf_0 {d : Nat} {w : hb_W} {Q : Option hb_V → hb_W → Prop} {x1 : Int32} {x2 : Int32} {x3 : Int32} (h : ((¬ (hb_aI w 12 15 0 (41 : Int32).toNatClampNeg) = (-1 : Int32)) → hb_O yX12_codesTell cX12_codesTell 4 (some .long) d [hb_r 12 0 0, hb_i (20 : Int32)] (hb_pI (hb_pI (hb_pI w 12 34 0 x1) 12 36 0 x2) 12 37 0 x3) (fun rv w1 => hb_R yX12_markOf cX12_markOf 8 (some .int) (d + 1) 55 [some (hb_r 12 0 0), some (hb_i x1), some (hb_i x2), some (hb_i x3), none, none, none, none] (rv.toList ++ []) w1 Q)) ∧ (((hb_aI w 12 15 0 (41 : Int32).toNatClampNeg) = (-1 : Int32)) → hb_R yX12_markOf cX12_markOf 8 (some .int) (d + 1) 55 [some (hb_r 12 0 0), some (hb_i x1), some (hb_i x2), some (hb_i x3), none, none, none, none] [hb_l (((x1.toInt64 * (619 : Int64)) + (x2.toInt64 * (211 : Int64))) + (x3.toInt64 * (97 : Int64)))] (hb_pI (hb_pI (hb_pI w 12 34 0 x1) 12 36 0 x2) 12 37 0 x3) Q)) : hb_R yX12_markOf cX12_markOf 8 (some .int) (d + 1) 0 [some (hb_r 12 0 0), some (hb_i x1), some (hb_i x2), some (hb_i x3), none, none, none, none] [] w Q := by
  refine hb_aload_n (pc := 0) (i := 0) dX12_markOf_0 rfl rfl ?_
  refine hb_iload_n (pc := 1) (i := 1) dX12_markOf_1 rfl rfl ?_
  refine hb_putI (pc := 2) dX12_markOf_2 fw_X12_330 cw_12 pw_12_34 rfl (by decide) rfl rfl rfl ?_
  refine hb_aload_n (pc := 5) (i := 0) dX12_markOf_5 rfl rfl ?_
  refine hb_iload_n (pc := 6) (i := 2) dX12_markOf_6 rfl rfl ?_
  refine hb_putI (pc := 7) dX12_markOf_7 fw_X12_333 cw_12 pw_12_36 rfl (by decide) rfl rfl rfl ?_
  refine hb_aload_n (pc := 10) (i := 0) dX12_markOf_10 rfl rfl ?_
  refine hb_iload_n (pc := 11) (i := 3) dX12_markOf_11 rfl rfl ?_
  refine hb_putI (pc := 12) dX12_markOf_12 fw_X12_336 cw_12 pw_12_37 rfl (by decide) rfl rfl rfl ?_
  refine hb_aload_n (pc := 15) (i := 0) dX12_markOf_15 rfl rfl ?_
  refine hb_getR (pc := 16) (g1 := 0) dX12_markOf_16 fw_X12_57 cw_12 rfl (by decide) rfl (by decide) rfl ?_
  refine hb_bipush (pc := 19) (v := 41) dX12_markOf_19 (by decide) ?_
  refine hb_ialdx (pc := 21) (x := hb_aI w 12 15 0 (41 : Int32).toNatClampNeg) dX12_markOf_21 (n := 42) rfl (by decide) (by unfold vp_in; decide) rfl ?_
  refine hb_iconst (pc := 22) (v := -1) dX12_markOf_22 (by decide) ?_
  refine hb_icmp_ne (pc := 23) (tgt := 49) dX12_markOf_23 (by decide) (fun c1 => ?_) (fun c1 => ?_)
  · have ht1 := h.1 c1
    refine hb_aload_n (pc := 49) (i := 0) dX12_markOf_49 rfl rfl ?_
    refine hb_bipush (pc := 50) (v := 20) dX12_markOf_50 (by decide) ?_
    exact hb_callV (pc := 52) (As := [hb_i (20 : Int32)]) (st := []) dX12_markOf_52 ml_X12_345 mf_X12_codesTell mi_X12_codesTell (ci := 12) rfl rfl (by decide) rfl rfl (Nat.le_of_ble_eq_true rfl) (Nat.le_of_ble_eq_true rfl) ht1 (fun _ _ q => q)
  · have ht1 := h.2 c1
    refine hb_iload_n (pc := 26) (i := 1) dX12_markOf_26 rfl rfl ?_
    refine hb_i2l (pc := 27) dX12_markOf_27 ?_
    refine hb_ldc2 (pc := 28) (v := 619) dX12_markOf_28 kc_X12_339 ?_
    refine hb_lmul (pc := 31) dX12_markOf_31 ?_
    refine hb_iload_n (pc := 32) (i := 2) dX12_markOf_32 rfl rfl ?_
    refine hb_i2l (pc := 33) dX12_markOf_33 ?_
    refine hb_ldc2 (pc := 34) (v := 211) dX12_markOf_34 kc_X12_341 ?_
    refine hb_lmul (pc := 37) dX12_markOf_37 ?_
    refine hb_ladd (pc := 38) dX12_markOf_38 ?_
    refine hb_iload_n (pc := 39) (i := 3) dX12_markOf_39 rfl rfl ?_
    refine hb_i2l (pc := 40) dX12_markOf_40 ?_
    refine hb_ldc2 (pc := 41) (v := 97) dX12_markOf_41 kc_X12_343 ?_
    refine hb_lmul (pc := 44) dX12_markOf_44 ?_
    refine hb_ladd (pc := 45) dX12_markOf_45 ?_
    refine hb_goto (pc := 46) (tgt := 55) dX12_markOf_46 (by decide) ?_
    exact ht1
set_option maxRecDepth 20000 in
theorem bk_X12_markOf_55 {d : Nat} {w : hb_W} {Q : Option hb_V → hb_W → Prop} {x1 : Int32} {x2 : Int32} {x3 : Int32} {ls0 : Int64} (h : ((0 ≤ (lg_cmp (ls0 - ls0 / (1000 : Int64) * (1000 : Int64)) (0 : Int64))) → Q (some (hb_i ((ls0 - ls0 / (1000 : Int64) * (1000 : Int64)).toInt32))) w) ∧ ((¬ 0 ≤ (lg_cmp (ls0 - ls0 / (1000 : Int64) * (1000 : Int64)) (0 : Int64))) → Q (some (hb_i (((ls0 - ls0 / (1000 : Int64) * (1000 : Int64)) + (1000 : Int64)).toInt32))) w)) : hb_R yX12_markOf cX12_markOf 8 (some .int) (d + 1) 55 [some (hb_r 12 0 0), some (hb_i x1), some (hb_i x2), some (hb_i x3), none, none, none, none] [hb_l ls0] w Q := by
  refine hb_lstore (pc := 55) (i := 4) (ls1 := [some (hb_r 12 0 0), some (hb_i x1), some (hb_i x2), some (hb_i x3), some (hb_l ls0), none, none, none]) dX12_markOf_55 (by decide) rfl ?_
  refine hb_lload (pc := 57) dX12_markOf_57 rfl ?_
  refine hb_ldc2 (pc := 59) (v := 1000) dX12_markOf_59 kc_X12_349 ?_
  refine hb_lrem (pc := 62) dX12_markOf_62 (by decide) ?_
  refine hb_lstore (pc := 63) (i := 6) (ls1 := [some (hb_r 12 0 0), some (hb_i x1), some (hb_i x2), some (hb_i x3), some (hb_l ls0), none, some (hb_l (ls0 - ls0 / (1000 : Int64) * (1000 : Int64))), none]) dX12_markOf_63 (by decide) rfl ?_
  refine hb_lload (pc := 65) dX12_markOf_65 rfl ?_
  refine hb_lconst (pc := 67) (v := 0) dX12_markOf_67 (by decide) ?_
  refine hb_lcmp (pc := 68) dX12_markOf_68 ?_
  refine hb_if_ge (pc := 69) (tgt := 81) dX12_markOf_69 (by decide) (fun c1 => ?_) (fun c1 => ?_)
  · have ht1 := h.1 c1
    refine hb_lload (pc := 81) dX12_markOf_81 rfl ?_
    refine hb_l2i (pc := 83) dX12_markOf_83 ?_
    exact hb_iret (pc := 84) dX12_markOf_84 rfl ht1
  · have ht1 := h.2 c1
    refine hb_lload (pc := 72) dX12_markOf_72 rfl ?_
    refine hb_ldc2 (pc := 74) (v := 1000) dX12_markOf_74 kc_X12_349 ?_
    refine hb_ladd (pc := 77) dX12_markOf_77 ?_
    refine hb_goto (pc := 78) (tgt := 83) dX12_markOf_78 (by decide) ?_
    refine hb_l2i (pc := 83) dX12_markOf_83 ?_
    exact hb_iret (pc := 84) dX12_markOf_84 rfl ht1
theorem dX12_laysMarks_0 : decode cX12_laysMarks 0 = .ok (.iconst 0, 1) := by decide +kernel
theorem dX12_laysMarks_1 : decode cX12_laysMarks 1 = .ok (.istore_n 2, 1) := by decide +kernel
theorem dX12_laysMarks_2 : decode cX12_laysMarks 2 = .ok (.iload_n 2, 1) := by decide +kernel
theorem dX12_laysMarks_3 : decode cX12_laysMarks 3 = .ok (.bipush 64, 2) := by decide +kernel
theorem dX12_laysMarks_5 : decode cX12_laysMarks 5 = .ok (.if_icmp .ge 41, 3) := by decide +kernel
theorem dX12_laysMarks_8 : decode cX12_laysMarks 8 = .ok (.iconst 0, 1) := by decide +kernel
theorem dX12_laysMarks_9 : decode cX12_laysMarks 9 = .ok (.istore_n 3, 1) := by decide +kernel
theorem dX12_laysMarks_10 : decode cX12_laysMarks 10 = .ok (.iload_n 3, 1) := by decide +kernel
theorem dX12_laysMarks_11 : decode cX12_laysMarks 11 = .ok (.bipush 9, 2) := by decide +kernel
theorem dX12_laysMarks_13 : decode cX12_laysMarks 13 = .ok (.if_icmp .ge 27, 3) := by decide +kernel
theorem dX12_laysMarks_16 : decode cX12_laysMarks 16 = .ok (.aload_n 0, 1) := by decide +kernel
theorem dX12_laysMarks_17 : decode cX12_laysMarks 17 = .ok (.getfield 72, 3) := by decide +kernel
theorem dX12_laysMarks_20 : decode cX12_laysMarks 20 = .ok (.bipush 9, 2) := by decide +kernel
theorem dX12_laysMarks_22 : decode cX12_laysMarks 22 = .ok (.iload_n 2, 1) := by decide +kernel
theorem dX12_laysMarks_23 : decode cX12_laysMarks 23 = .ok (.imul, 1) := by decide +kernel
theorem dX12_laysMarks_24 : decode cX12_laysMarks 24 = .ok (.iload_n 3, 1) := by decide +kernel
theorem dX12_laysMarks_25 : decode cX12_laysMarks 25 = .ok (.iadd, 1) := by decide +kernel
theorem dX12_laysMarks_26 : decode cX12_laysMarks 26 = .ok (.aload_n 0, 1) := by decide +kernel
theorem dX12_laysMarks_27 : decode cX12_laysMarks 27 = .ok (.iload_n 2, 1) := by decide +kernel
theorem dX12_laysMarks_28 : decode cX12_laysMarks 28 = .ok (.iload_n 3, 1) := by decide +kernel
theorem dX12_laysMarks_29 : decode cX12_laysMarks 29 = .ok (.iload_n 1, 1) := by decide +kernel
theorem dX12_laysMarks_30 : decode cX12_laysMarks 30 = .ok (.invokevirtual 351, 3) := by decide +kernel
theorem dX12_laysMarks_33 : decode cX12_laysMarks 33 = .ok (.iastore, 1) := by decide +kernel
theorem dX12_laysMarks_34 : decode cX12_laysMarks 34 = .ok (.iinc 3 1, 3) := by decide +kernel
theorem dX12_laysMarks_37 : decode cX12_laysMarks 37 = .ok (.goto (-27), 3) := by decide +kernel
theorem dX12_laysMarks_40 : decode cX12_laysMarks 40 = .ok (.iinc 2 1, 3) := by decide +kernel
theorem dX12_laysMarks_43 : decode cX12_laysMarks 43 = .ok (.goto (-41), 3) := by decide +kernel
theorem dX12_laysMarks_46 : decode cX12_laysMarks 46 = .ok (.return_, 1) := by decide +kernel
set_option maxRecDepth 20000 in
theorem bk_X12_laysMarks_0 {d : Nat} {w : hb_W} {Q : Option hb_V → hb_W → Prop} {x1 : Int32} (h : hb_R yX12_laysMarks cX12_laysMarks 4 none (d + 1) 2 [some (hb_r 12 0 0), some (hb_i x1), some (hb_i (0 : Int32)), none] [] w Q) : hb_R yX12_laysMarks cX12_laysMarks 4 none (d + 1) 0 [some (hb_r 12 0 0), some (hb_i x1), none, none] [] w Q := by
  refine hb_iconst (pc := 0) (v := 0) dX12_laysMarks_0 (by decide) ?_
  refine hb_istore_n (pc := 1) (i := 2) (ls1 := [some (hb_r 12 0 0), some (hb_i x1), some (hb_i (0 : Int32)), none]) dX12_laysMarks_1 rfl (by decide) rfl ?_
  exact h
set_option maxRecDepth 20000 in
theorem bk_X12_laysMarks_2 {d : Nat} {w : hb_W} {Q : Option hb_V → hb_W → Prop} {x1 : Int32} {x2 : Int32} (h : (((64 : Int32) ≤ x2) → Q none w) ∧ ((¬ (64 : Int32) ≤ x2) → hb_R yX12_laysMarks cX12_laysMarks 4 none (d + 1) 10 [some (hb_r 12 0 0), some (hb_i x1), some (hb_i x2), some (hb_i (0 : Int32))] [] w Q)) : hb_R yX12_laysMarks cX12_laysMarks 4 none (d + 1) 2 [some (hb_r 12 0 0), some (hb_i x1), some (hb_i x2), none] [] w Q := by
  refine hb_iload_n (pc := 2) (i := 2) dX12_laysMarks_2 rfl rfl ?_
  refine hb_bipush (pc := 3) (v := 64) dX12_laysMarks_3 (by decide) ?_
  refine hb_icmp_ge (pc := 5) (tgt := 46) dX12_laysMarks_5 (by decide) (fun c1 => ?_) (fun c1 => ?_)
  · have ht1 := h.1 c1
    exact hb_vret (pc := 46) dX12_laysMarks_46 rfl ht1
  · have ht1 := h.2 c1
    refine hb_iconst (pc := 8) (v := 0) dX12_laysMarks_8 (by decide) ?_
    refine hb_istore_n (pc := 9) (i := 3) (ls1 := [some (hb_r 12 0 0), some (hb_i x1), some (hb_i x2), some (hb_i (0 : Int32))]) dX12_laysMarks_9 rfl (by decide) rfl ?_
    exact ht1
set_option maxRecDepth 20000 in
theorem bk_X12_laysMarks_10 {d : Nat} {w : hb_W} {Q : Option hb_V → hb_W → Prop} {x1 : Int32} {x2 : Int32} {x3 : Int32} (h : (((9 : Int32) ≤ x3) → hb_R yX12_laysMarks cX12_laysMarks 4 none (d + 1) 2 [some (hb_r 12 0 0), some (hb_i x1), some (hb_i (x2 + (1 : Int32))), some (hb_i x3)] [] w Q) ∧ ((¬ (9 : Int32) ≤ x3) → hb_O yX12_markOf cX12_markOf 8 (some .int) d [hb_r 12 0 0, hb_i x2, hb_i x3, hb_i x1] w (fun rv w1 => hb_R yX12_laysMarks cX12_laysMarks 4 none (d + 1) 33 [some (hb_r 12 0 0), some (hb_i x1), some (hb_i x2), some (hb_i x3)] (rv.toList ++ [hb_i (((9 : Int32) * x2) + x3), hb_r 12 0 20]) w1 Q))) : hb_R yX12_laysMarks cX12_laysMarks 4 none (d + 1) 10 [some (hb_r 12 0 0), some (hb_i x1), some (hb_i x2), some (hb_i x3)] [] w Q := by
  refine hb_iload_n (pc := 10) (i := 3) dX12_laysMarks_10 rfl rfl ?_
  refine hb_bipush (pc := 11) (v := 9) dX12_laysMarks_11 (by decide) ?_
  refine hb_icmp_ge (pc := 13) (tgt := 40) dX12_laysMarks_13 (by decide) (fun c1 => ?_) (fun c1 => ?_)
  · have ht1 := h.1 c1
    refine hb_iinc (pc := 40) (v := x2 + (1 : Int32)) (ls1 := [some (hb_r 12 0 0), some (hb_i x1), some (hb_i (x2 + (1 : Int32))), some (hb_i x3)]) dX12_laysMarks_40 rfl rfl (by decide) rfl ?_
    refine hb_goto (pc := 43) (tgt := 2) dX12_laysMarks_43 (by decide) ?_
    exact ht1
  · have ht1 := h.2 c1
    refine hb_aload_n (pc := 16) (i := 0) dX12_laysMarks_16 rfl rfl ?_
    refine hb_getR (pc := 17) (g1 := 0) dX12_laysMarks_17 fw_X12_72 cw_12 rfl (by decide) rfl (by decide) rfl ?_
    refine hb_bipush (pc := 20) (v := 9) dX12_laysMarks_20 (by decide) ?_
    refine hb_iload_n (pc := 22) (i := 2) dX12_laysMarks_22 rfl rfl ?_
    refine hb_imul (pc := 23) dX12_laysMarks_23 ?_
    refine hb_iload_n (pc := 24) (i := 3) dX12_laysMarks_24 rfl rfl ?_
    refine hb_iadd (pc := 25) dX12_laysMarks_25 ?_
    refine hb_aload_n (pc := 26) (i := 0) dX12_laysMarks_26 rfl rfl ?_
    refine hb_iload_n (pc := 27) (i := 2) dX12_laysMarks_27 rfl rfl ?_
    refine hb_iload_n (pc := 28) (i := 3) dX12_laysMarks_28 rfl rfl ?_
    refine hb_iload_n (pc := 29) (i := 1) dX12_laysMarks_29 rfl rfl ?_
    exact hb_callV (pc := 30) (As := [hb_i x2, hb_i x3, hb_i x1]) (st := [hb_i (((9 : Int32) * x2) + x3), hb_r 12 0 20]) dX12_laysMarks_30 ml_X12_351 mf_X12_markOf mi_X12_markOf (ci := 12) rfl rfl (by decide) rfl rfl (Nat.le_of_ble_eq_true rfl) (Nat.le_of_ble_eq_true rfl) ht1 (fun _ _ q => q)
set_option maxRecDepth 20000 in
theorem bk_X12_laysMarks_33 {d : Nat} {w : hb_W} {Q : Option hb_V → hb_W → Prop} {x1 : Int32} {x2 : Int32} {x3 : Int32} {xs1 : Int32} {xs2 : Int32} (h : vp_in xs1 576 ∧ (hb_R yX12_laysMarks cX12_laysMarks 4 none (d + 1) 10 [some (hb_r 12 0 0), some (hb_i x1), some (hb_i x2), some (hb_i (x3 + (1 : Int32)))] [] (hb_sI w 12 20 0 (upd (hb_aI w 12 20 0) xs1.toNatClampNeg xs2)) Q)) : hb_R yX12_laysMarks cX12_laysMarks 4 none (d + 1) 33 [some (hb_r 12 0 0), some (hb_i x1), some (hb_i x2), some (hb_i x3)] [hb_i xs2, hb_i xs1, hb_r 12 0 20] w Q := by
  obtain ⟨ho1, hr1⟩ := h
  refine hb_iastx (pc := 33) (f := upd (hb_aI w 12 20 0) xs1.toNatClampNeg xs2) dX12_laysMarks_33 rfl (by decide) ho1 rfl ?_
  refine hb_iinc (pc := 34) (v := x3 + (1 : Int32)) (ls1 := [some (hb_r 12 0 0), some (hb_i x1), some (hb_i x2), some (hb_i (x3 + (1 : Int32)))]) dX12_laysMarks_34 rfl rfl (by decide) rfl ?_
  refine hb_goto (pc := 37) (tgt := 10) dX12_laysMarks_37 (by decide) ?_
  exact hr1
theorem dX12_marked_0 : decode cX12_marked 0 = .ok (.aload_n 0, 1) := by decide +kernel
theorem dX12_marked_1 : decode cX12_marked 1 = .ok (.getfield 72, 3) := by decide +kernel
theorem dX12_marked_4 : decode cX12_marked 4 = .ok (.bipush 9, 2) := by decide +kernel
theorem dX12_marked_6 : decode cX12_marked 6 = .ok (.iload_n 1, 1) := by decide +kernel
theorem dX12_marked_7 : decode cX12_marked 7 = .ok (.imul, 1) := by decide +kernel
theorem dX12_marked_8 : decode cX12_marked 8 = .ok (.iload_n 2, 1) := by decide +kernel
theorem dX12_marked_9 : decode cX12_marked 9 = .ok (.iadd, 1) := by decide +kernel
theorem dX12_marked_10 : decode cX12_marked 10 = .ok (.iaload, 1) := by decide +kernel
theorem dX12_marked_11 : decode cX12_marked 11 = .ok (.ireturn, 1) := by decide +kernel
set_option maxRecDepth 20000 in
theorem bk_X12_marked_0 {d : Nat} {w : hb_W} {Q : Option hb_V → hb_W → Prop} {x1 : Int32} {x2 : Int32} (h : vp_in (((9 : Int32) * x1) + x2) 576 ∧ (Q (some (hb_i (hb_aI w 12 20 0 (((9 : Int32) * x1) + x2).toNatClampNeg))) w)) : hb_R yX12_marked cX12_marked 3 (some .int) d 0 [some (hb_r 12 0 0), some (hb_i x1), some (hb_i x2)] [] w Q := by
  refine hb_aload_n (pc := 0) (i := 0) dX12_marked_0 rfl rfl ?_
  refine hb_getR (pc := 1) (g1 := 0) dX12_marked_1 fw_X12_72 cw_12 rfl (by decide) rfl (by decide) rfl ?_
  refine hb_bipush (pc := 4) (v := 9) dX12_marked_4 (by decide) ?_
  refine hb_iload_n (pc := 6) (i := 1) dX12_marked_6 rfl rfl ?_
  refine hb_imul (pc := 7) dX12_marked_7 ?_
  refine hb_iload_n (pc := 8) (i := 2) dX12_marked_8 rfl rfl ?_
  refine hb_iadd (pc := 9) dX12_marked_9 ?_
  obtain ⟨ho1, hr1⟩ := h
  refine hb_ialdx (pc := 10) (x := hb_aI w 12 20 0 (((9 : Int32) * x1) + x2).toNatClampNeg) dX12_marked_10 rfl (by decide) ho1 rfl ?_
  exact hb_iret (pc := 11) dX12_marked_11 rfl hr1
theorem dX12_leastTakes_0 : decode cX12_leastTakes 0 = .ok (.iconst 0, 1) := by decide +kernel
theorem dX12_leastTakes_1 : decode cX12_leastTakes 1 = .ok (.istore_n 2, 1) := by decide +kernel
theorem dX12_leastTakes_2 : decode cX12_leastTakes 2 = .ok (.iload_n 2, 1) := by decide +kernel
theorem dX12_leastTakes_3 : decode cX12_leastTakes 3 = .ok (.aload_n 0, 1) := by decide +kernel
theorem dX12_leastTakes_4 : decode cX12_leastTakes 4 = .ok (.getfield 355, 3) := by decide +kernel
theorem dX12_leastTakes_7 : decode cX12_leastTakes 7 = .ok (.if_icmp .ge 19, 3) := by decide +kernel
theorem dX12_leastTakes_10 : decode cX12_leastTakes 10 = .ok (.aload_n 0, 1) := by decide +kernel
theorem dX12_leastTakes_11 : decode cX12_leastTakes 11 = .ok (.getfield 81, 3) := by decide +kernel
theorem dX12_leastTakes_14 : decode cX12_leastTakes 14 = .ok (.iload_n 2, 1) := by decide +kernel
theorem dX12_leastTakes_15 : decode cX12_leastTakes 15 = .ok (.iaload, 1) := by decide +kernel
theorem dX12_leastTakes_16 : decode cX12_leastTakes 16 = .ok (.iload_n 1, 1) := by decide +kernel
theorem dX12_leastTakes_17 : decode cX12_leastTakes 17 = .ok (.if_icmp .ge 9, 3) := by decide +kernel
theorem dX12_leastTakes_20 : decode cX12_leastTakes 20 = .ok (.iinc 2 1, 3) := by decide +kernel
theorem dX12_leastTakes_23 : decode cX12_leastTakes 23 = .ok (.goto (-21), 3) := by decide +kernel
theorem dX12_leastTakes_26 : decode cX12_leastTakes 26 = .ok (.iload_n 2, 1) := by decide +kernel
theorem dX12_leastTakes_27 : decode cX12_leastTakes 27 = .ok (.aload_n 0, 1) := by decide +kernel
theorem dX12_leastTakes_28 : decode cX12_leastTakes 28 = .ok (.getfield 355, 3) := by decide +kernel
theorem dX12_leastTakes_31 : decode cX12_leastTakes 31 = .ok (.if_icmp .ge 14, 3) := by decide +kernel
theorem dX12_leastTakes_34 : decode cX12_leastTakes 34 = .ok (.aload_n 0, 1) := by decide +kernel
theorem dX12_leastTakes_35 : decode cX12_leastTakes 35 = .ok (.getfield 81, 3) := by decide +kernel
theorem dX12_leastTakes_38 : decode cX12_leastTakes 38 = .ok (.iload_n 2, 1) := by decide +kernel
theorem dX12_leastTakes_39 : decode cX12_leastTakes 39 = .ok (.iaload, 1) := by decide +kernel
theorem dX12_leastTakes_40 : decode cX12_leastTakes 40 = .ok (.iload_n 1, 1) := by decide +kernel
theorem dX12_leastTakes_41 : decode cX12_leastTakes 41 = .ok (.if_icmp .ne 4, 3) := by decide +kernel
theorem dX12_leastTakes_44 : decode cX12_leastTakes 44 = .ok (.return_, 1) := by decide +kernel
theorem dX12_leastTakes_45 : decode cX12_leastTakes 45 = .ok (.aload_n 0, 1) := by decide +kernel
theorem dX12_leastTakes_46 : decode cX12_leastTakes 46 = .ok (.getfield 355, 3) := by decide +kernel
theorem dX12_leastTakes_49 : decode cX12_leastTakes 49 = .ok (.istore_n 3, 1) := by decide +kernel
theorem dX12_leastTakes_50 : decode cX12_leastTakes 50 = .ok (.iload_n 3, 1) := by decide +kernel
theorem dX12_leastTakes_51 : decode cX12_leastTakes 51 = .ok (.iload_n 2, 1) := by decide +kernel
theorem dX12_leastTakes_52 : decode cX12_leastTakes 52 = .ok (.if_icmp .le 23, 3) := by decide +kernel
theorem dX12_leastTakes_55 : decode cX12_leastTakes 55 = .ok (.aload_n 0, 1) := by decide +kernel
theorem dX12_leastTakes_56 : decode cX12_leastTakes 56 = .ok (.getfield 81, 3) := by decide +kernel
theorem dX12_leastTakes_59 : decode cX12_leastTakes 59 = .ok (.iload_n 3, 1) := by decide +kernel
theorem dX12_leastTakes_60 : decode cX12_leastTakes 60 = .ok (.aload_n 0, 1) := by decide +kernel
theorem dX12_leastTakes_61 : decode cX12_leastTakes 61 = .ok (.getfield 81, 3) := by decide +kernel
theorem dX12_leastTakes_64 : decode cX12_leastTakes 64 = .ok (.iload_n 3, 1) := by decide +kernel
theorem dX12_leastTakes_65 : decode cX12_leastTakes 65 = .ok (.iconst 1, 1) := by decide +kernel
theorem dX12_leastTakes_66 : decode cX12_leastTakes 66 = .ok (.isub, 1) := by decide +kernel
theorem dX12_leastTakes_67 : decode cX12_leastTakes 67 = .ok (.iaload, 1) := by decide +kernel
theorem dX12_leastTakes_68 : decode cX12_leastTakes 68 = .ok (.iastore, 1) := by decide +kernel
theorem dX12_leastTakes_69 : decode cX12_leastTakes 69 = .ok (.iinc 3 (-1), 3) := by decide +kernel
theorem dX12_leastTakes_72 : decode cX12_leastTakes 72 = .ok (.goto (-22), 3) := by decide +kernel
theorem dX12_leastTakes_75 : decode cX12_leastTakes 75 = .ok (.aload_n 0, 1) := by decide +kernel
theorem dX12_leastTakes_76 : decode cX12_leastTakes 76 = .ok (.getfield 81, 3) := by decide +kernel
theorem dX12_leastTakes_79 : decode cX12_leastTakes 79 = .ok (.iload_n 2, 1) := by decide +kernel
theorem dX12_leastTakes_80 : decode cX12_leastTakes 80 = .ok (.iload_n 1, 1) := by decide +kernel
theorem dX12_leastTakes_81 : decode cX12_leastTakes 81 = .ok (.iastore, 1) := by decide +kernel
theorem dX12_leastTakes_82 : decode cX12_leastTakes 82 = .ok (.aload_n 0, 1) := by decide +kernel
theorem dX12_leastTakes_83 : decode cX12_leastTakes 83 = .ok (.getfield 355, 3) := by decide +kernel
theorem dX12_leastTakes_86 : decode cX12_leastTakes 86 = .ok (.aload_n 0, 1) := by decide +kernel
theorem dX12_leastTakes_87 : decode cX12_leastTakes 87 = .ok (.getfield 358, 3) := by decide +kernel
theorem dX12_leastTakes_90 : decode cX12_leastTakes 90 = .ok (.if_icmp .ge 13, 3) := by decide +kernel
theorem dX12_leastTakes_93 : decode cX12_leastTakes 93 = .ok (.aload_n 0, 1) := by decide +kernel
theorem dX12_leastTakes_94 : decode cX12_leastTakes 94 = .ok (.dup, 1) := by decide +kernel
theorem dX12_leastTakes_95 : decode cX12_leastTakes 95 = .ok (.getfield 355, 3) := by decide +kernel
theorem dX12_leastTakes_98 : decode cX12_leastTakes 98 = .ok (.iconst 1, 1) := by decide +kernel
theorem dX12_leastTakes_99 : decode cX12_leastTakes 99 = .ok (.iadd, 1) := by decide +kernel
theorem dX12_leastTakes_100 : decode cX12_leastTakes 100 = .ok (.putfield 355, 3) := by decide +kernel
theorem dX12_leastTakes_103 : decode cX12_leastTakes 103 = .ok (.return_, 1) := by decide +kernel
set_option maxRecDepth 20000 in
theorem bk_X12_leastTakes_0 {d : Nat} {w : hb_W} {Q : Option hb_V → hb_W → Prop} {x1 : Int32} (h : hb_R yX12_leastTakes cX12_leastTakes 4 none d 2 [some (hb_r 12 0 0), some (hb_i x1), some (hb_i (0 : Int32)), none] [] w Q) : hb_R yX12_leastTakes cX12_leastTakes 4 none d 0 [some (hb_r 12 0 0), some (hb_i x1), none, none] [] w Q := by
  refine hb_iconst (pc := 0) (v := 0) dX12_leastTakes_0 (by decide) ?_
  refine hb_istore_n (pc := 1) (i := 2) (ls1 := [some (hb_r 12 0 0), some (hb_i x1), some (hb_i (0 : Int32)), none]) dX12_leastTakes_1 rfl (by decide) rfl ?_
  exact h
set_option maxRecDepth 20000 in
theorem bk_X12_leastTakes_2 {d : Nat} {w : hb_W} {Q : Option hb_V → hb_W → Prop} {x1 : Int32} {x2 : Int32} (h : (((hb_fI w 12 44 0) ≤ x2) → (((hb_fI w 12 44 0) ≤ x2) → hb_R yX12_leastTakes cX12_leastTakes 4 none d 50 [some (hb_r 12 0 0), some (hb_i x1), some (hb_i x2), some (hb_i (hb_fI w 12 44 0))] [] w Q) ∧ ((¬ (hb_fI w 12 44 0) ≤ x2) → vp_in x2 10 ∧ (((¬ (hb_aI w 12 23 0 x2.toNatClampNeg) = x1) → hb_R yX12_leastTakes cX12_leastTakes 4 none d 50 [some (hb_r 12 0 0), some (hb_i x1), some (hb_i x2), some (hb_i (hb_fI w 12 44 0))] [] w Q) ∧ (((hb_aI w 12 23 0 x2.toNatClampNeg) = x1) → Q none w)))) ∧ ((¬ (hb_fI w 12 44 0) ≤ x2) → vp_in x2 10 ∧ (((x1 ≤ (hb_aI w 12 23 0 x2.toNatClampNeg)) → (((hb_fI w 12 44 0) ≤ x2) → hb_R yX12_leastTakes cX12_leastTakes 4 none d 50 [some (hb_r 12 0 0), some (hb_i x1), some (hb_i x2), some (hb_i (hb_fI w 12 44 0))] [] w Q) ∧ ((¬ (hb_fI w 12 44 0) ≤ x2) → vp_in x2 10 ∧ (((¬ (hb_aI w 12 23 0 x2.toNatClampNeg) = x1) → hb_R yX12_leastTakes cX12_leastTakes 4 none d 50 [some (hb_r 12 0 0), some (hb_i x1), some (hb_i x2), some (hb_i (hb_fI w 12 44 0))] [] w Q) ∧ (((hb_aI w 12 23 0 x2.toNatClampNeg) = x1) → Q none w)))) ∧ ((¬ x1 ≤ (hb_aI w 12 23 0 x2.toNatClampNeg)) → hb_R yX12_leastTakes cX12_leastTakes 4 none d 2 [some (hb_r 12 0 0), some (hb_i x1), some (hb_i (x2 + (1 : Int32))), none] [] w Q)))) : hb_R yX12_leastTakes cX12_leastTakes 4 none d 2 [some (hb_r 12 0 0), some (hb_i x1), some (hb_i x2), none] [] w Q := by
  refine hb_iload_n (pc := 2) (i := 2) dX12_leastTakes_2 rfl rfl ?_
  refine hb_aload_n (pc := 3) (i := 0) dX12_leastTakes_3 rfl rfl ?_
  refine hb_getIx (pc := 4) (x := hb_fI w 12 44 0) dX12_leastTakes_4 fw_X12_355 cw_12 rfl (by decide) rfl rfl ?_
  refine hb_icmp_ge (pc := 7) (tgt := 26) dX12_leastTakes_7 (by decide) (fun c1 => ?_) (fun c1 => ?_)
  · have ht1 := h.1 c1
    refine hb_iload_n (pc := 26) (i := 2) dX12_leastTakes_26 rfl rfl ?_
    refine hb_aload_n (pc := 27) (i := 0) dX12_leastTakes_27 rfl rfl ?_
    refine hb_getIx (pc := 28) (x := hb_fI w 12 44 0) dX12_leastTakes_28 fw_X12_355 cw_12 rfl (by decide) rfl rfl ?_
    refine hb_icmp_ge (pc := 31) (tgt := 45) dX12_leastTakes_31 (by decide) (fun c2 => ?_) (fun c2 => ?_)
    · have ht2 := ht1.1 c2
      refine hb_aload_n (pc := 45) (i := 0) dX12_leastTakes_45 rfl rfl ?_
      refine hb_getIx (pc := 46) (x := hb_fI w 12 44 0) dX12_leastTakes_46 fw_X12_355 cw_12 rfl (by decide) rfl rfl ?_
      refine hb_istore_n (pc := 49) (i := 3) (ls1 := [some (hb_r 12 0 0), some (hb_i x1), some (hb_i x2), some (hb_i (hb_fI w 12 44 0))]) dX12_leastTakes_49 rfl (by decide) rfl ?_
      exact ht2
    · have ht2 := ht1.2 c2
      refine hb_aload_n (pc := 34) (i := 0) dX12_leastTakes_34 rfl rfl ?_
      refine hb_getR (pc := 35) (g1 := 0) dX12_leastTakes_35 fw_X12_81 cw_12 rfl (by decide) rfl (by decide) rfl ?_
      refine hb_iload_n (pc := 38) (i := 2) dX12_leastTakes_38 rfl rfl ?_
      obtain ⟨ho3, hr3⟩ := ht2
      refine hb_ialdx (pc := 39) (x := hb_aI w 12 23 0 x2.toNatClampNeg) dX12_leastTakes_39 rfl (by decide) ho3 rfl ?_
      refine hb_iload_n (pc := 40) (i := 1) dX12_leastTakes_40 rfl rfl ?_
      refine hb_icmp_ne (pc := 41) (tgt := 45) dX12_leastTakes_41 (by decide) (fun c4 => ?_) (fun c4 => ?_)
      · have ht4 := hr3.1 c4
        refine hb_aload_n (pc := 45) (i := 0) dX12_leastTakes_45 rfl rfl ?_
        refine hb_getIx (pc := 46) (x := hb_fI w 12 44 0) dX12_leastTakes_46 fw_X12_355 cw_12 rfl (by decide) rfl rfl ?_
        refine hb_istore_n (pc := 49) (i := 3) (ls1 := [some (hb_r 12 0 0), some (hb_i x1), some (hb_i x2), some (hb_i (hb_fI w 12 44 0))]) dX12_leastTakes_49 rfl (by decide) rfl ?_
        exact ht4
      · have ht4 := hr3.2 c4
        exact hb_vret (pc := 44) dX12_leastTakes_44 rfl ht4
  · have ht1 := h.2 c1
    refine hb_aload_n (pc := 10) (i := 0) dX12_leastTakes_10 rfl rfl ?_
    refine hb_getR (pc := 11) (g1 := 0) dX12_leastTakes_11 fw_X12_81 cw_12 rfl (by decide) rfl (by decide) rfl ?_
    refine hb_iload_n (pc := 14) (i := 2) dX12_leastTakes_14 rfl rfl ?_
    obtain ⟨ho5, hr5⟩ := ht1
    refine hb_ialdx (pc := 15) (x := hb_aI w 12 23 0 x2.toNatClampNeg) dX12_leastTakes_15 rfl (by decide) ho5 rfl ?_
    refine hb_iload_n (pc := 16) (i := 1) dX12_leastTakes_16 rfl rfl ?_
    refine hb_icmp_ge (pc := 17) (tgt := 26) dX12_leastTakes_17 (by decide) (fun c6 => ?_) (fun c6 => ?_)
    · have ht6 := hr5.1 c6
      refine hb_iload_n (pc := 26) (i := 2) dX12_leastTakes_26 rfl rfl ?_
      refine hb_aload_n (pc := 27) (i := 0) dX12_leastTakes_27 rfl rfl ?_
      refine hb_getIx (pc := 28) (x := hb_fI w 12 44 0) dX12_leastTakes_28 fw_X12_355 cw_12 rfl (by decide) rfl rfl ?_
      refine hb_icmp_ge (pc := 31) (tgt := 45) dX12_leastTakes_31 (by decide) (fun c7 => ?_) (fun c7 => ?_)
      · have ht7 := ht6.1 c7
        refine hb_aload_n (pc := 45) (i := 0) dX12_leastTakes_45 rfl rfl ?_
        refine hb_getIx (pc := 46) (x := hb_fI w 12 44 0) dX12_leastTakes_46 fw_X12_355 cw_12 rfl (by decide) rfl rfl ?_
        refine hb_istore_n (pc := 49) (i := 3) (ls1 := [some (hb_r 12 0 0), some (hb_i x1), some (hb_i x2), some (hb_i (hb_fI w 12 44 0))]) dX12_leastTakes_49 rfl (by decide) rfl ?_
        exact ht7
      · have ht7 := ht6.2 c7
        refine hb_aload_n (pc := 34) (i := 0) dX12_leastTakes_34 rfl rfl ?_
        refine hb_getR (pc := 35) (g1 := 0) dX12_leastTakes_35 fw_X12_81 cw_12 rfl (by decide) rfl (by decide) rfl ?_
        refine hb_iload_n (pc := 38) (i := 2) dX12_leastTakes_38 rfl rfl ?_
        obtain ⟨ho8, hr8⟩ := ht7
        refine hb_ialdx (pc := 39) (x := hb_aI w 12 23 0 x2.toNatClampNeg) dX12_leastTakes_39 rfl (by decide) ho8 rfl ?_
        refine hb_iload_n (pc := 40) (i := 1) dX12_leastTakes_40 rfl rfl ?_
        refine hb_icmp_ne (pc := 41) (tgt := 45) dX12_leastTakes_41 (by decide) (fun c9 => ?_) (fun c9 => ?_)
        · have ht9 := hr8.1 c9
          refine hb_aload_n (pc := 45) (i := 0) dX12_leastTakes_45 rfl rfl ?_
          refine hb_getIx (pc := 46) (x := hb_fI w 12 44 0) dX12_leastTakes_46 fw_X12_355 cw_12 rfl (by decide) rfl rfl ?_
          refine hb_istore_n (pc := 49) (i := 3) (ls1 := [some (hb_r 12 0 0), some (hb_i x1), some (hb_i x2), some (hb_i (hb_fI w 12 44 0))]) dX12_leastTakes_49 rfl (by decide) rfl ?_
          exact ht9
        · have ht9 := hr8.2 c9
          exact hb_vret (pc := 44) dX12_leastTakes_44 rfl ht9
    · have ht6 := hr5.2 c6
      refine hb_iinc (pc := 20) (v := x2 + (1 : Int32)) (ls1 := [some (hb_r 12 0 0), some (hb_i x1), some (hb_i (x2 + (1 : Int32))), none]) dX12_leastTakes_20 rfl rfl (by decide) rfl ?_
      refine hb_goto (pc := 23) (tgt := 2) dX12_leastTakes_23 (by decide) ?_
      exact ht6
set_option maxRecDepth 20000 in
theorem bk_X12_leastTakes_50 {d : Nat} {w : hb_W} {Q : Option hb_V → hb_W → Prop} {x1 : Int32} {x2 : Int32} {x3 : Int32} (h : ((x3 ≤ x2) → vp_in x2 10 ∧ ((((hb_fI w 12 39 0) ≤ (hb_fI w 12 44 0)) → Q none (hb_sI w 12 23 0 (upd (hb_aI w 12 23 0) x2.toNatClampNeg x1))) ∧ ((¬ (hb_fI w 12 39 0) ≤ (hb_fI w 12 44 0)) → Q none (hb_pI (hb_sI w 12 23 0 (upd (hb_aI w 12 23 0) x2.toNatClampNeg x1)) 12 44 0 ((hb_fI w 12 44 0) + (1 : Int32)))))) ∧ ((¬ x3 ≤ x2) → vp_in (x3 - (1 : Int32)) 10 ∧ (vp_in x3 10 ∧ (hb_R yX12_leastTakes cX12_leastTakes 4 none d 50 [some (hb_r 12 0 0), some (hb_i x1), some (hb_i x2), some (hb_i (x3 + (-1 : Int32)))] [] (hb_sI w 12 23 0 (upd (hb_aI w 12 23 0) x3.toNatClampNeg (hb_aI w 12 23 0 (x3 - (1 : Int32)).toNatClampNeg))) Q)))) : hb_R yX12_leastTakes cX12_leastTakes 4 none d 50 [some (hb_r 12 0 0), some (hb_i x1), some (hb_i x2), some (hb_i x3)] [] w Q := by
  refine hb_iload_n (pc := 50) (i := 3) dX12_leastTakes_50 rfl rfl ?_
  refine hb_iload_n (pc := 51) (i := 2) dX12_leastTakes_51 rfl rfl ?_
  refine hb_icmp_le (pc := 52) (tgt := 75) dX12_leastTakes_52 (by decide) (fun c1 => ?_) (fun c1 => ?_)
  · have ht1 := h.1 c1
    refine hb_aload_n (pc := 75) (i := 0) dX12_leastTakes_75 rfl rfl ?_
    refine hb_getR (pc := 76) (g1 := 0) dX12_leastTakes_76 fw_X12_81 cw_12 rfl (by decide) rfl (by decide) rfl ?_
    refine hb_iload_n (pc := 79) (i := 2) dX12_leastTakes_79 rfl rfl ?_
    refine hb_iload_n (pc := 80) (i := 1) dX12_leastTakes_80 rfl rfl ?_
    obtain ⟨ho2, hr2⟩ := ht1
    refine hb_iastx (pc := 81) (f := upd (hb_aI w 12 23 0) x2.toNatClampNeg x1) dX12_leastTakes_81 rfl (by decide) ho2 rfl ?_
    refine hb_aload_n (pc := 82) (i := 0) dX12_leastTakes_82 rfl rfl ?_
    refine hb_getIx (pc := 83) (x := hb_fI w 12 44 0) dX12_leastTakes_83 fw_X12_355 cw_12 rfl (by decide) rfl rfl ?_
    refine hb_aload_n (pc := 86) (i := 0) dX12_leastTakes_86 rfl rfl ?_
    refine hb_getIx (pc := 87) (x := hb_fI w 12 39 0) dX12_leastTakes_87 fw_X12_358 cw_12 rfl (by decide) rfl rfl ?_
    refine hb_icmp_ge (pc := 90) (tgt := 103) dX12_leastTakes_90 (by decide) (fun c3 => ?_) (fun c3 => ?_)
    · have ht3 := hr2.1 c3
      exact hb_vret (pc := 103) dX12_leastTakes_103 rfl ht3
    · have ht3 := hr2.2 c3
      refine hb_aload_n (pc := 93) (i := 0) dX12_leastTakes_93 rfl rfl ?_
      refine hb_dupr (pc := 94) dX12_leastTakes_94 ?_
      refine hb_getIx (pc := 95) (x := hb_fI w 12 44 0) dX12_leastTakes_95 fw_X12_355 cw_12 rfl (by decide) rfl rfl ?_
      refine hb_iconst (pc := 98) (v := 1) dX12_leastTakes_98 (by decide) ?_
      refine hb_iadd (pc := 99) dX12_leastTakes_99 ?_
      refine hb_putI (pc := 100) dX12_leastTakes_100 fw_X12_355 cw_12 pw_12_44 rfl (by decide) rfl rfl rfl ?_
      exact hb_vret (pc := 103) dX12_leastTakes_103 rfl ht3
  · have ht1 := h.2 c1
    refine hb_aload_n (pc := 55) (i := 0) dX12_leastTakes_55 rfl rfl ?_
    refine hb_getR (pc := 56) (g1 := 0) dX12_leastTakes_56 fw_X12_81 cw_12 rfl (by decide) rfl (by decide) rfl ?_
    refine hb_iload_n (pc := 59) (i := 3) dX12_leastTakes_59 rfl rfl ?_
    refine hb_aload_n (pc := 60) (i := 0) dX12_leastTakes_60 rfl rfl ?_
    refine hb_getR (pc := 61) (g1 := 0) dX12_leastTakes_61 fw_X12_81 cw_12 rfl (by decide) rfl (by decide) rfl ?_
    refine hb_iload_n (pc := 64) (i := 3) dX12_leastTakes_64 rfl rfl ?_
    refine hb_iconst (pc := 65) (v := 1) dX12_leastTakes_65 (by decide) ?_
    refine hb_isub (pc := 66) dX12_leastTakes_66 ?_
    obtain ⟨ho4, hr4⟩ := ht1
    refine hb_ialdx (pc := 67) (x := hb_aI w 12 23 0 (x3 - (1 : Int32)).toNatClampNeg) dX12_leastTakes_67 rfl (by decide) ho4 rfl ?_
    obtain ⟨ho5, hr5⟩ := hr4
    refine hb_iastx (pc := 68) (f := upd (hb_aI w 12 23 0) x3.toNatClampNeg (hb_aI w 12 23 0 (x3 - (1 : Int32)).toNatClampNeg)) dX12_leastTakes_68 rfl (by decide) ho5 rfl ?_
    refine hb_iinc (pc := 69) (v := x3 + (-1 : Int32)) (ls1 := [some (hb_r 12 0 0), some (hb_i x1), some (hb_i x2), some (hb_i (x3 + (-1 : Int32)))]) dX12_leastTakes_69 rfl rfl (by decide) rfl ?_
    refine hb_goto (pc := 72) (tgt := 50) dX12_leastTakes_72 (by decide) ?_
    exact hr5
theorem dX12_noughts_0 : decode cX12_noughts 0 = .ok (.iload_n 0, 1) := by decide +kernel
theorem dX12_noughts_1 : decode cX12_noughts 1 = .ok (.ifCond .ne 6, 3) := by decide +kernel
theorem dX12_noughts_4 : decode cX12_noughts 4 = .ok (.bipush 10, 2) := by decide +kernel
theorem dX12_noughts_6 : decode cX12_noughts 6 = .ok (.ireturn, 1) := by decide +kernel
theorem dX12_noughts_7 : decode cX12_noughts 7 = .ok (.iconst 0, 1) := by decide +kernel
theorem dX12_noughts_8 : decode cX12_noughts 8 = .ok (.istore_n 1, 1) := by decide +kernel
theorem dX12_noughts_9 : decode cX12_noughts 9 = .ok (.iload_n 0, 1) := by decide +kernel
theorem dX12_noughts_10 : decode cX12_noughts 10 = .ok (.istore_n 2, 1) := by decide +kernel
theorem dX12_noughts_11 : decode cX12_noughts 11 = .ok (.iload_n 2, 1) := by decide +kernel
theorem dX12_noughts_12 : decode cX12_noughts 12 = .ok (.iconst 2, 1) := by decide +kernel
theorem dX12_noughts_13 : decode cX12_noughts 13 = .ok (.irem, 1) := by decide +kernel
theorem dX12_noughts_14 : decode cX12_noughts 14 = .ok (.ifCond .ne 13, 3) := by decide +kernel
theorem dX12_noughts_17 : decode cX12_noughts 17 = .ok (.iinc 1 1, 3) := by decide +kernel
theorem dX12_noughts_20 : decode cX12_noughts 20 = .ok (.iload_n 2, 1) := by decide +kernel
theorem dX12_noughts_21 : decode cX12_noughts 21 = .ok (.iconst 2, 1) := by decide +kernel
theorem dX12_noughts_22 : decode cX12_noughts 22 = .ok (.idiv, 1) := by decide +kernel
theorem dX12_noughts_23 : decode cX12_noughts 23 = .ok (.istore_n 2, 1) := by decide +kernel
theorem dX12_noughts_24 : decode cX12_noughts 24 = .ok (.goto (-13), 3) := by decide +kernel
theorem dX12_noughts_27 : decode cX12_noughts 27 = .ok (.iload_n 1, 1) := by decide +kernel
theorem dX12_noughts_28 : decode cX12_noughts 28 = .ok (.ireturn, 1) := by decide +kernel
set_option maxRecDepth 20000 in
theorem bk_X12_noughts_0 {d : Nat} {w : hb_W} {Q : Option hb_V → hb_W → Prop} {x0 : Int32} (h : ((¬ x0 = 0) → hb_R yX12_noughts cX12_noughts 3 (some .int) d 11 [some (hb_i x0), some (hb_i (0 : Int32)), some (hb_i x0)] [] w Q) ∧ ((x0 = 0) → Q (some (hb_i (10 : Int32))) w)) : hb_R yX12_noughts cX12_noughts 3 (some .int) d 0 [some (hb_i x0), none, none] [] w Q := by
  refine hb_iload_n (pc := 0) (i := 0) dX12_noughts_0 rfl rfl ?_
  refine hb_if_ne (pc := 1) (tgt := 7) dX12_noughts_1 (by decide) (fun c1 => ?_) (fun c1 => ?_)
  · have ht1 := h.1 c1
    refine hb_iconst (pc := 7) (v := 0) dX12_noughts_7 (by decide) ?_
    refine hb_istore_n (pc := 8) (i := 1) (ls1 := [some (hb_i x0), some (hb_i (0 : Int32)), none]) dX12_noughts_8 rfl (by decide) rfl ?_
    refine hb_iload_n (pc := 9) (i := 0) dX12_noughts_9 rfl rfl ?_
    refine hb_istore_n (pc := 10) (i := 2) (ls1 := [some (hb_i x0), some (hb_i (0 : Int32)), some (hb_i x0)]) dX12_noughts_10 rfl (by decide) rfl ?_
    exact ht1
  · have ht1 := h.2 c1
    refine hb_bipush (pc := 4) (v := 10) dX12_noughts_4 (by decide) ?_
    exact hb_iret (pc := 6) dX12_noughts_6 rfl ht1
set_option maxRecDepth 20000 in
theorem bk_X12_noughts_11 {d : Nat} {w : hb_W} {Q : Option hb_V → hb_W → Prop} {x0 : Int32} {x1 : Int32} {x2 : Int32} (h : ((¬ (x2 - x2 / (2 : Int32) * (2 : Int32)) = 0) → Q (some (hb_i x1)) w) ∧ (((x2 - x2 / (2 : Int32) * (2 : Int32)) = 0) → hb_R yX12_noughts cX12_noughts 3 (some .int) d 11 [some (hb_i x0), some (hb_i (x1 + (1 : Int32))), some (hb_i (x2 / (2 : Int32)))] [] w Q)) : hb_R yX12_noughts cX12_noughts 3 (some .int) d 11 [some (hb_i x0), some (hb_i x1), some (hb_i x2)] [] w Q := by
  refine hb_iload_n (pc := 11) (i := 2) dX12_noughts_11 rfl rfl ?_
  refine hb_iconst (pc := 12) (v := 2) dX12_noughts_12 (by decide) ?_
  refine hb_irem (pc := 13) dX12_noughts_13 (by decide) ?_
  refine hb_if_ne (pc := 14) (tgt := 27) dX12_noughts_14 (by decide) (fun c1 => ?_) (fun c1 => ?_)
  · have ht1 := h.1 c1
    refine hb_iload_n (pc := 27) (i := 1) dX12_noughts_27 rfl rfl ?_
    exact hb_iret (pc := 28) dX12_noughts_28 rfl ht1
  · have ht1 := h.2 c1
    refine hb_iinc (pc := 17) (v := x1 + (1 : Int32)) (ls1 := [some (hb_i x0), some (hb_i (x1 + (1 : Int32))), some (hb_i x2)]) dX12_noughts_17 rfl rfl (by decide) rfl ?_
    refine hb_iload_n (pc := 20) (i := 2) dX12_noughts_20 rfl rfl ?_
    refine hb_iconst (pc := 21) (v := 2) dX12_noughts_21 (by decide) ?_
    refine hb_idiv (pc := 22) dX12_noughts_22 (by decide) ?_
    refine hb_istore_n (pc := 23) (i := 2) (ls1 := [some (hb_i x0), some (hb_i (x1 + (1 : Int32))), some (hb_i (x2 / (2 : Int32)))]) dX12_noughts_23 rfl (by decide) rfl ?_
    refine hb_goto (pc := 24) (tgt := 11) dX12_noughts_24 (by decide) ?_
    exact ht1
theorem dX12_oftenTakes_0 : decode cX12_oftenTakes 0 = .ok (.iconst 0, 1) := by decide +kernel
theorem dX12_oftenTakes_1 : decode cX12_oftenTakes 1 = .ok (.istore_n 2, 1) := by decide +kernel
theorem dX12_oftenTakes_2 : decode cX12_oftenTakes 2 = .ok (.iload_n 2, 1) := by decide +kernel
theorem dX12_oftenTakes_3 : decode cX12_oftenTakes 3 = .ok (.aload_n 0, 1) := by decide +kernel
theorem dX12_oftenTakes_4 : decode cX12_oftenTakes 4 = .ok (.getfield 358, 3) := by decide +kernel
theorem dX12_oftenTakes_7 : decode cX12_oftenTakes 7 = .ok (.if_icmp .ge 39, 3) := by decide +kernel
theorem dX12_oftenTakes_10 : decode cX12_oftenTakes 10 = .ok (.aload_n 0, 1) := by decide +kernel
theorem dX12_oftenTakes_11 : decode cX12_oftenTakes 11 = .ok (.getfield 87, 3) := by decide +kernel
theorem dX12_oftenTakes_14 : decode cX12_oftenTakes 14 = .ok (.iload_n 2, 1) := by decide +kernel
theorem dX12_oftenTakes_15 : decode cX12_oftenTakes 15 = .ok (.iaload, 1) := by decide +kernel
theorem dX12_oftenTakes_16 : decode cX12_oftenTakes 16 = .ok (.ifCond .le 24, 3) := by decide +kernel
theorem dX12_oftenTakes_19 : decode cX12_oftenTakes 19 = .ok (.aload_n 0, 1) := by decide +kernel
theorem dX12_oftenTakes_20 : decode cX12_oftenTakes 20 = .ok (.getfield 84, 3) := by decide +kernel
theorem dX12_oftenTakes_23 : decode cX12_oftenTakes 23 = .ok (.iload_n 2, 1) := by decide +kernel
theorem dX12_oftenTakes_24 : decode cX12_oftenTakes 24 = .ok (.iaload, 1) := by decide +kernel
theorem dX12_oftenTakes_25 : decode cX12_oftenTakes 25 = .ok (.iload_n 1, 1) := by decide +kernel
theorem dX12_oftenTakes_26 : decode cX12_oftenTakes 26 = .ok (.if_icmp .ne 14, 3) := by decide +kernel
theorem dX12_oftenTakes_29 : decode cX12_oftenTakes 29 = .ok (.aload_n 0, 1) := by decide +kernel
theorem dX12_oftenTakes_30 : decode cX12_oftenTakes 30 = .ok (.getfield 87, 3) := by decide +kernel
theorem dX12_oftenTakes_33 : decode cX12_oftenTakes 33 = .ok (.iload_n 2, 1) := by decide +kernel
theorem dX12_oftenTakes_34 : decode cX12_oftenTakes 34 = .ok (.dup2, 1) := by decide +kernel
theorem dX12_oftenTakes_35 : decode cX12_oftenTakes 35 = .ok (.iaload, 1) := by decide +kernel
theorem dX12_oftenTakes_36 : decode cX12_oftenTakes 36 = .ok (.iconst 1, 1) := by decide +kernel
theorem dX12_oftenTakes_37 : decode cX12_oftenTakes 37 = .ok (.iadd, 1) := by decide +kernel
theorem dX12_oftenTakes_38 : decode cX12_oftenTakes 38 = .ok (.iastore, 1) := by decide +kernel
theorem dX12_oftenTakes_39 : decode cX12_oftenTakes 39 = .ok (.return_, 1) := by decide +kernel
theorem dX12_oftenTakes_40 : decode cX12_oftenTakes 40 = .ok (.iinc 2 1, 3) := by decide +kernel
theorem dX12_oftenTakes_43 : decode cX12_oftenTakes 43 = .ok (.goto (-41), 3) := by decide +kernel
theorem dX12_oftenTakes_46 : decode cX12_oftenTakes 46 = .ok (.iconst 0, 1) := by decide +kernel
theorem dX12_oftenTakes_47 : decode cX12_oftenTakes 47 = .ok (.istore_n 2, 1) := by decide +kernel
theorem dX12_oftenTakes_48 : decode cX12_oftenTakes 48 = .ok (.iload_n 2, 1) := by decide +kernel
theorem dX12_oftenTakes_49 : decode cX12_oftenTakes 49 = .ok (.aload_n 0, 1) := by decide +kernel
theorem dX12_oftenTakes_50 : decode cX12_oftenTakes 50 = .ok (.getfield 358, 3) := by decide +kernel
theorem dX12_oftenTakes_53 : decode cX12_oftenTakes 53 = .ok (.if_icmp .ge 33, 3) := by decide +kernel
theorem dX12_oftenTakes_56 : decode cX12_oftenTakes 56 = .ok (.aload_n 0, 1) := by decide +kernel
theorem dX12_oftenTakes_57 : decode cX12_oftenTakes 57 = .ok (.getfield 87, 3) := by decide +kernel
theorem dX12_oftenTakes_60 : decode cX12_oftenTakes 60 = .ok (.iload_n 2, 1) := by decide +kernel
theorem dX12_oftenTakes_61 : decode cX12_oftenTakes 61 = .ok (.iaload, 1) := by decide +kernel
theorem dX12_oftenTakes_62 : decode cX12_oftenTakes 62 = .ok (.ifCond .ne 18, 3) := by decide +kernel
theorem dX12_oftenTakes_65 : decode cX12_oftenTakes 65 = .ok (.aload_n 0, 1) := by decide +kernel
theorem dX12_oftenTakes_66 : decode cX12_oftenTakes 66 = .ok (.getfield 84, 3) := by decide +kernel
theorem dX12_oftenTakes_69 : decode cX12_oftenTakes 69 = .ok (.iload_n 2, 1) := by decide +kernel
theorem dX12_oftenTakes_70 : decode cX12_oftenTakes 70 = .ok (.iload_n 1, 1) := by decide +kernel
theorem dX12_oftenTakes_71 : decode cX12_oftenTakes 71 = .ok (.iastore, 1) := by decide +kernel
theorem dX12_oftenTakes_72 : decode cX12_oftenTakes 72 = .ok (.aload_n 0, 1) := by decide +kernel
theorem dX12_oftenTakes_73 : decode cX12_oftenTakes 73 = .ok (.getfield 87, 3) := by decide +kernel
theorem dX12_oftenTakes_76 : decode cX12_oftenTakes 76 = .ok (.iload_n 2, 1) := by decide +kernel
theorem dX12_oftenTakes_77 : decode cX12_oftenTakes 77 = .ok (.iconst 1, 1) := by decide +kernel
theorem dX12_oftenTakes_78 : decode cX12_oftenTakes 78 = .ok (.iastore, 1) := by decide +kernel
theorem dX12_oftenTakes_79 : decode cX12_oftenTakes 79 = .ok (.return_, 1) := by decide +kernel
theorem dX12_oftenTakes_80 : decode cX12_oftenTakes 80 = .ok (.iinc 2 1, 3) := by decide +kernel
theorem dX12_oftenTakes_83 : decode cX12_oftenTakes 83 = .ok (.goto (-35), 3) := by decide +kernel
theorem dX12_oftenTakes_86 : decode cX12_oftenTakes 86 = .ok (.iconst 0, 1) := by decide +kernel
theorem dX12_oftenTakes_87 : decode cX12_oftenTakes 87 = .ok (.istore_n 2, 1) := by decide +kernel
theorem dX12_oftenTakes_88 : decode cX12_oftenTakes 88 = .ok (.iload_n 2, 1) := by decide +kernel
theorem dX12_oftenTakes_89 : decode cX12_oftenTakes 89 = .ok (.aload_n 0, 1) := by decide +kernel
theorem dX12_oftenTakes_90 : decode cX12_oftenTakes 90 = .ok (.getfield 358, 3) := by decide +kernel
theorem dX12_oftenTakes_93 : decode cX12_oftenTakes 93 = .ok (.if_icmp .ge 19, 3) := by decide +kernel
theorem dX12_oftenTakes_96 : decode cX12_oftenTakes 96 = .ok (.aload_n 0, 1) := by decide +kernel
theorem dX12_oftenTakes_97 : decode cX12_oftenTakes 97 = .ok (.getfield 87, 3) := by decide +kernel
theorem dX12_oftenTakes_100 : decode cX12_oftenTakes 100 = .ok (.iload_n 2, 1) := by decide +kernel
theorem dX12_oftenTakes_101 : decode cX12_oftenTakes 101 = .ok (.dup2, 1) := by decide +kernel
theorem dX12_oftenTakes_102 : decode cX12_oftenTakes 102 = .ok (.iaload, 1) := by decide +kernel
theorem dX12_oftenTakes_103 : decode cX12_oftenTakes 103 = .ok (.iconst 1, 1) := by decide +kernel
theorem dX12_oftenTakes_104 : decode cX12_oftenTakes 104 = .ok (.isub, 1) := by decide +kernel
theorem dX12_oftenTakes_105 : decode cX12_oftenTakes 105 = .ok (.iastore, 1) := by decide +kernel
theorem dX12_oftenTakes_106 : decode cX12_oftenTakes 106 = .ok (.iinc 2 1, 3) := by decide +kernel
theorem dX12_oftenTakes_109 : decode cX12_oftenTakes 109 = .ok (.goto (-21), 3) := by decide +kernel
theorem dX12_oftenTakes_112 : decode cX12_oftenTakes 112 = .ok (.return_, 1) := by decide +kernel
set_option maxRecDepth 20000 in
theorem bk_X12_oftenTakes_0 {d : Nat} {w : hb_W} {Q : Option hb_V → hb_W → Prop} {x1 : Int32} (h : hb_R yX12_oftenTakes cX12_oftenTakes 3 none d 2 [some (hb_r 12 0 0), some (hb_i x1), some (hb_i (0 : Int32))] [] w Q) : hb_R yX12_oftenTakes cX12_oftenTakes 3 none d 0 [some (hb_r 12 0 0), some (hb_i x1), none] [] w Q := by
  refine hb_iconst (pc := 0) (v := 0) dX12_oftenTakes_0 (by decide) ?_
  refine hb_istore_n (pc := 1) (i := 2) (ls1 := [some (hb_r 12 0 0), some (hb_i x1), some (hb_i (0 : Int32))]) dX12_oftenTakes_1 rfl (by decide) rfl ?_
  exact h
set_option maxRecDepth 20000 in
theorem bk_X12_oftenTakes_2 {d : Nat} {w : hb_W} {Q : Option hb_V → hb_W → Prop} {x1 : Int32} {x2 : Int32} (h : (((hb_fI w 12 39 0) ≤ x2) → hb_R yX12_oftenTakes cX12_oftenTakes 3 none d 48 [some (hb_r 12 0 0), some (hb_i x1), some (hb_i (0 : Int32))] [] w Q) ∧ ((¬ (hb_fI w 12 39 0) ≤ x2) → vp_in x2 9 ∧ ((((hb_aI w 12 25 0 x2.toNatClampNeg) ≤ 0) → hb_R yX12_oftenTakes cX12_oftenTakes 3 none d 2 [some (hb_r 12 0 0), some (hb_i x1), some (hb_i (x2 + (1 : Int32)))] [] w Q) ∧ ((¬ (hb_aI w 12 25 0 x2.toNatClampNeg) ≤ 0) → vp_in x2 9 ∧ (((¬ (hb_aI w 12 24 0 x2.toNatClampNeg) = x1) → hb_R yX12_oftenTakes cX12_oftenTakes 3 none d 2 [some (hb_r 12 0 0), some (hb_i x1), some (hb_i (x2 + (1 : Int32)))] [] w Q) ∧ (((hb_aI w 12 24 0 x2.toNatClampNeg) = x1) → vp_in x2 9 ∧ (vp_in x2 9 ∧ (Q none (hb_sI w 12 25 0 (upd (hb_aI w 12 25 0) x2.toNatClampNeg ((hb_aI w 12 25 0 x2.toNatClampNeg) + (1 : Int32)))))))))))) : hb_R yX12_oftenTakes cX12_oftenTakes 3 none d 2 [some (hb_r 12 0 0), some (hb_i x1), some (hb_i x2)] [] w Q := by
  refine hb_iload_n (pc := 2) (i := 2) dX12_oftenTakes_2 rfl rfl ?_
  refine hb_aload_n (pc := 3) (i := 0) dX12_oftenTakes_3 rfl rfl ?_
  refine hb_getIx (pc := 4) (x := hb_fI w 12 39 0) dX12_oftenTakes_4 fw_X12_358 cw_12 rfl (by decide) rfl rfl ?_
  refine hb_icmp_ge (pc := 7) (tgt := 46) dX12_oftenTakes_7 (by decide) (fun c1 => ?_) (fun c1 => ?_)
  · have ht1 := h.1 c1
    refine hb_iconst (pc := 46) (v := 0) dX12_oftenTakes_46 (by decide) ?_
    refine hb_istore_n (pc := 47) (i := 2) (ls1 := [some (hb_r 12 0 0), some (hb_i x1), some (hb_i (0 : Int32))]) dX12_oftenTakes_47 rfl (by decide) rfl ?_
    exact ht1
  · have ht1 := h.2 c1
    refine hb_aload_n (pc := 10) (i := 0) dX12_oftenTakes_10 rfl rfl ?_
    refine hb_getR (pc := 11) (g1 := 0) dX12_oftenTakes_11 fw_X12_87 cw_12 rfl (by decide) rfl (by decide) rfl ?_
    refine hb_iload_n (pc := 14) (i := 2) dX12_oftenTakes_14 rfl rfl ?_
    obtain ⟨ho2, hr2⟩ := ht1
    refine hb_ialdx (pc := 15) (x := hb_aI w 12 25 0 x2.toNatClampNeg) dX12_oftenTakes_15 rfl (by decide) ho2 rfl ?_
    refine hb_if_le (pc := 16) (tgt := 40) dX12_oftenTakes_16 (by decide) (fun c3 => ?_) (fun c3 => ?_)
    · have ht3 := hr2.1 c3
      refine hb_iinc (pc := 40) (v := x2 + (1 : Int32)) (ls1 := [some (hb_r 12 0 0), some (hb_i x1), some (hb_i (x2 + (1 : Int32)))]) dX12_oftenTakes_40 rfl rfl (by decide) rfl ?_
      refine hb_goto (pc := 43) (tgt := 2) dX12_oftenTakes_43 (by decide) ?_
      exact ht3
    · have ht3 := hr2.2 c3
      refine hb_aload_n (pc := 19) (i := 0) dX12_oftenTakes_19 rfl rfl ?_
      refine hb_getR (pc := 20) (g1 := 0) dX12_oftenTakes_20 fw_X12_84 cw_12 rfl (by decide) rfl (by decide) rfl ?_
      refine hb_iload_n (pc := 23) (i := 2) dX12_oftenTakes_23 rfl rfl ?_
      obtain ⟨ho4, hr4⟩ := ht3
      refine hb_ialdx (pc := 24) (x := hb_aI w 12 24 0 x2.toNatClampNeg) dX12_oftenTakes_24 rfl (by decide) ho4 rfl ?_
      refine hb_iload_n (pc := 25) (i := 1) dX12_oftenTakes_25 rfl rfl ?_
      refine hb_icmp_ne (pc := 26) (tgt := 40) dX12_oftenTakes_26 (by decide) (fun c5 => ?_) (fun c5 => ?_)
      · have ht5 := hr4.1 c5
        refine hb_iinc (pc := 40) (v := x2 + (1 : Int32)) (ls1 := [some (hb_r 12 0 0), some (hb_i x1), some (hb_i (x2 + (1 : Int32)))]) dX12_oftenTakes_40 rfl rfl (by decide) rfl ?_
        refine hb_goto (pc := 43) (tgt := 2) dX12_oftenTakes_43 (by decide) ?_
        exact ht5
      · have ht5 := hr4.2 c5
        refine hb_aload_n (pc := 29) (i := 0) dX12_oftenTakes_29 rfl rfl ?_
        refine hb_getR (pc := 30) (g1 := 0) dX12_oftenTakes_30 fw_X12_87 cw_12 rfl (by decide) rfl (by decide) rfl ?_
        refine hb_iload_n (pc := 33) (i := 2) dX12_oftenTakes_33 rfl rfl ?_
        refine hb_dup2ir (pc := 34) dX12_oftenTakes_34 ?_
        obtain ⟨ho6, hr6⟩ := ht5
        refine hb_ialdx (pc := 35) (x := hb_aI w 12 25 0 x2.toNatClampNeg) dX12_oftenTakes_35 rfl (by decide) ho6 rfl ?_
        refine hb_iconst (pc := 36) (v := 1) dX12_oftenTakes_36 (by decide) ?_
        refine hb_iadd (pc := 37) dX12_oftenTakes_37 ?_
        obtain ⟨ho7, hr7⟩ := hr6
        refine hb_iastx (pc := 38) (f := upd (hb_aI w 12 25 0) x2.toNatClampNeg ((hb_aI w 12 25 0 x2.toNatClampNeg) + (1 : Int32))) dX12_oftenTakes_38 rfl (by decide) ho7 rfl ?_
        exact hb_vret (pc := 39) dX12_oftenTakes_39 rfl hr7
set_option maxRecDepth 20000 in
theorem bk_X12_oftenTakes_48 {d : Nat} {w : hb_W} {Q : Option hb_V → hb_W → Prop} {x1 : Int32} {x2 : Int32} (h : (((hb_fI w 12 39 0) ≤ x2) → hb_R yX12_oftenTakes cX12_oftenTakes 3 none d 88 [some (hb_r 12 0 0), some (hb_i x1), some (hb_i (0 : Int32))] [] w Q) ∧ ((¬ (hb_fI w 12 39 0) ≤ x2) → vp_in x2 9 ∧ (((¬ (hb_aI w 12 25 0 x2.toNatClampNeg) = 0) → hb_R yX12_oftenTakes cX12_oftenTakes 3 none d 48 [some (hb_r 12 0 0), some (hb_i x1), some (hb_i (x2 + (1 : Int32)))] [] w Q) ∧ (((hb_aI w 12 25 0 x2.toNatClampNeg) = 0) → vp_in x2 9 ∧ (vp_in x2 9 ∧ (Q none (hb_sI (hb_sI w 12 24 0 (upd (hb_aI w 12 24 0) x2.toNatClampNeg x1)) 12 25 0 (upd (hb_aI w 12 25 0) x2.toNatClampNeg (1 : Int32))))))))) : hb_R yX12_oftenTakes cX12_oftenTakes 3 none d 48 [some (hb_r 12 0 0), some (hb_i x1), some (hb_i x2)] [] w Q := by
  refine hb_iload_n (pc := 48) (i := 2) dX12_oftenTakes_48 rfl rfl ?_
  refine hb_aload_n (pc := 49) (i := 0) dX12_oftenTakes_49 rfl rfl ?_
  refine hb_getIx (pc := 50) (x := hb_fI w 12 39 0) dX12_oftenTakes_50 fw_X12_358 cw_12 rfl (by decide) rfl rfl ?_
  refine hb_icmp_ge (pc := 53) (tgt := 86) dX12_oftenTakes_53 (by decide) (fun c1 => ?_) (fun c1 => ?_)
  · have ht1 := h.1 c1
    refine hb_iconst (pc := 86) (v := 0) dX12_oftenTakes_86 (by decide) ?_
    refine hb_istore_n (pc := 87) (i := 2) (ls1 := [some (hb_r 12 0 0), some (hb_i x1), some (hb_i (0 : Int32))]) dX12_oftenTakes_87 rfl (by decide) rfl ?_
    exact ht1
  · have ht1 := h.2 c1
    refine hb_aload_n (pc := 56) (i := 0) dX12_oftenTakes_56 rfl rfl ?_
    refine hb_getR (pc := 57) (g1 := 0) dX12_oftenTakes_57 fw_X12_87 cw_12 rfl (by decide) rfl (by decide) rfl ?_
    refine hb_iload_n (pc := 60) (i := 2) dX12_oftenTakes_60 rfl rfl ?_
    obtain ⟨ho2, hr2⟩ := ht1
    refine hb_ialdx (pc := 61) (x := hb_aI w 12 25 0 x2.toNatClampNeg) dX12_oftenTakes_61 rfl (by decide) ho2 rfl ?_
    refine hb_if_ne (pc := 62) (tgt := 80) dX12_oftenTakes_62 (by decide) (fun c3 => ?_) (fun c3 => ?_)
    · have ht3 := hr2.1 c3
      refine hb_iinc (pc := 80) (v := x2 + (1 : Int32)) (ls1 := [some (hb_r 12 0 0), some (hb_i x1), some (hb_i (x2 + (1 : Int32)))]) dX12_oftenTakes_80 rfl rfl (by decide) rfl ?_
      refine hb_goto (pc := 83) (tgt := 48) dX12_oftenTakes_83 (by decide) ?_
      exact ht3
    · have ht3 := hr2.2 c3
      refine hb_aload_n (pc := 65) (i := 0) dX12_oftenTakes_65 rfl rfl ?_
      refine hb_getR (pc := 66) (g1 := 0) dX12_oftenTakes_66 fw_X12_84 cw_12 rfl (by decide) rfl (by decide) rfl ?_
      refine hb_iload_n (pc := 69) (i := 2) dX12_oftenTakes_69 rfl rfl ?_
      refine hb_iload_n (pc := 70) (i := 1) dX12_oftenTakes_70 rfl rfl ?_
      obtain ⟨ho4, hr4⟩ := ht3
      refine hb_iastx (pc := 71) (f := upd (hb_aI w 12 24 0) x2.toNatClampNeg x1) dX12_oftenTakes_71 rfl (by decide) ho4 rfl ?_
      refine hb_aload_n (pc := 72) (i := 0) dX12_oftenTakes_72 rfl rfl ?_
      refine hb_getR (pc := 73) (g1 := 0) dX12_oftenTakes_73 fw_X12_87 cw_12 rfl (by decide) rfl (by decide) rfl ?_
      refine hb_iload_n (pc := 76) (i := 2) dX12_oftenTakes_76 rfl rfl ?_
      refine hb_iconst (pc := 77) (v := 1) dX12_oftenTakes_77 (by decide) ?_
      obtain ⟨ho5, hr5⟩ := hr4
      refine hb_iastx (pc := 78) (f := upd (hb_aI w 12 25 0) x2.toNatClampNeg (1 : Int32)) dX12_oftenTakes_78 rfl (by decide) ho5 rfl ?_
      exact hb_vret (pc := 79) dX12_oftenTakes_79 rfl hr5
set_option maxRecDepth 20000 in
theorem bk_X12_oftenTakes_88 {d : Nat} {w : hb_W} {Q : Option hb_V → hb_W → Prop} {x1 : Int32} {x2 : Int32} (h : (((hb_fI w 12 39 0) ≤ x2) → Q none w) ∧ ((¬ (hb_fI w 12 39 0) ≤ x2) → vp_in x2 9 ∧ (vp_in x2 9 ∧ (hb_R yX12_oftenTakes cX12_oftenTakes 3 none d 88 [some (hb_r 12 0 0), some (hb_i x1), some (hb_i (x2 + (1 : Int32)))] [] (hb_sI w 12 25 0 (upd (hb_aI w 12 25 0) x2.toNatClampNeg ((hb_aI w 12 25 0 x2.toNatClampNeg) - (1 : Int32)))) Q)))) : hb_R yX12_oftenTakes cX12_oftenTakes 3 none d 88 [some (hb_r 12 0 0), some (hb_i x1), some (hb_i x2)] [] w Q := by
  refine hb_iload_n (pc := 88) (i := 2) dX12_oftenTakes_88 rfl rfl ?_
  refine hb_aload_n (pc := 89) (i := 0) dX12_oftenTakes_89 rfl rfl ?_
  refine hb_getIx (pc := 90) (x := hb_fI w 12 39 0) dX12_oftenTakes_90 fw_X12_358 cw_12 rfl (by decide) rfl rfl ?_
  refine hb_icmp_ge (pc := 93) (tgt := 112) dX12_oftenTakes_93 (by decide) (fun c1 => ?_) (fun c1 => ?_)
  · have ht1 := h.1 c1
    exact hb_vret (pc := 112) dX12_oftenTakes_112 rfl ht1
  · have ht1 := h.2 c1
    refine hb_aload_n (pc := 96) (i := 0) dX12_oftenTakes_96 rfl rfl ?_
    refine hb_getR (pc := 97) (g1 := 0) dX12_oftenTakes_97 fw_X12_87 cw_12 rfl (by decide) rfl (by decide) rfl ?_
    refine hb_iload_n (pc := 100) (i := 2) dX12_oftenTakes_100 rfl rfl ?_
    refine hb_dup2ir (pc := 101) dX12_oftenTakes_101 ?_
    obtain ⟨ho2, hr2⟩ := ht1
    refine hb_ialdx (pc := 102) (x := hb_aI w 12 25 0 x2.toNatClampNeg) dX12_oftenTakes_102 rfl (by decide) ho2 rfl ?_
    refine hb_iconst (pc := 103) (v := 1) dX12_oftenTakes_103 (by decide) ?_
    refine hb_isub (pc := 104) dX12_oftenTakes_104 ?_
    obtain ⟨ho3, hr3⟩ := hr2
    refine hb_iastx (pc := 105) (f := upd (hb_aI w 12 25 0) x2.toNatClampNeg ((hb_aI w 12 25 0 x2.toNatClampNeg) - (1 : Int32))) dX12_oftenTakes_105 rfl (by decide) ho3 rfl ?_
    refine hb_iinc (pc := 106) (v := x2 + (1 : Int32)) (ls1 := [some (hb_r 12 0 0), some (hb_i x1), some (hb_i (x2 + (1 : Int32)))]) dX12_oftenTakes_106 rfl rfl (by decide) rfl ?_
    refine hb_goto (pc := 109) (tgt := 88) dX12_oftenTakes_109 (by decide) ?_
    exact hr3
theorem dX12_bookTakes_0 : decode cX12_bookTakes 0 = .ok (.aload_n 0, 1) := by decide +kernel
theorem dX12_bookTakes_1 : decode cX12_bookTakes 1 = .ok (.dup, 1) := by decide +kernel
theorem dX12_bookTakes_2 : decode cX12_bookTakes 2 = .ok (.getfield 361, 3) := by decide +kernel
theorem dX12_bookTakes_5 : decode cX12_bookTakes 5 = .ok (.iconst 1, 1) := by decide +kernel
theorem dX12_bookTakes_6 : decode cX12_bookTakes 6 = .ok (.iadd, 1) := by decide +kernel
theorem dX12_bookTakes_7 : decode cX12_bookTakes 7 = .ok (.putfield 361, 3) := by decide +kernel
theorem dX12_bookTakes_10 : decode cX12_bookTakes 10 = .ok (.aload_n 0, 1) := by decide +kernel
theorem dX12_bookTakes_11 : decode cX12_bookTakes 11 = .ok (.getfield 75, 3) := by decide +kernel
theorem dX12_bookTakes_14 : decode cX12_bookTakes 14 = .ok (.iload_n 1, 1) := by decide +kernel
theorem dX12_bookTakes_15 : decode cX12_bookTakes 15 = .ok (.dup2, 1) := by decide +kernel
theorem dX12_bookTakes_16 : decode cX12_bookTakes 16 = .ok (.iaload, 1) := by decide +kernel
theorem dX12_bookTakes_17 : decode cX12_bookTakes 17 = .ok (.iconst 1, 1) := by decide +kernel
theorem dX12_bookTakes_18 : decode cX12_bookTakes 18 = .ok (.iadd, 1) := by decide +kernel
theorem dX12_bookTakes_19 : decode cX12_bookTakes 19 = .ok (.iastore, 1) := by decide +kernel
theorem dX12_bookTakes_20 : decode cX12_bookTakes 20 = .ok (.aload_n 0, 1) := by decide +kernel
theorem dX12_bookTakes_21 : decode cX12_bookTakes 21 = .ok (.getfield 103, 3) := by decide +kernel
theorem dX12_bookTakes_24 : decode cX12_bookTakes 24 = .ok (.iload_n 2, 1) := by decide +kernel
theorem dX12_bookTakes_25 : decode cX12_bookTakes 25 = .ok (.dup2, 1) := by decide +kernel
theorem dX12_bookTakes_26 : decode cX12_bookTakes 26 = .ok (.iaload, 1) := by decide +kernel
theorem dX12_bookTakes_27 : decode cX12_bookTakes 27 = .ok (.iconst 1, 1) := by decide +kernel
theorem dX12_bookTakes_28 : decode cX12_bookTakes 28 = .ok (.iadd, 1) := by decide +kernel
theorem dX12_bookTakes_29 : decode cX12_bookTakes 29 = .ok (.iastore, 1) := by decide +kernel
theorem dX12_bookTakes_30 : decode cX12_bookTakes 30 = .ok (.aload_n 0, 1) := by decide +kernel
theorem dX12_bookTakes_31 : decode cX12_bookTakes 31 = .ok (.aload_n 0, 1) := by decide +kernel
theorem dX12_bookTakes_32 : decode cX12_bookTakes 32 = .ok (.iload_n 1, 1) := by decide +kernel
theorem dX12_bookTakes_33 : decode cX12_bookTakes 33 = .ok (.iconst 0, 1) := by decide +kernel
theorem dX12_bookTakes_34 : decode cX12_bookTakes 34 = .ok (.invokevirtual 364, 3) := by decide +kernel
theorem dX12_bookTakes_37 : decode cX12_bookTakes 37 = .ok (.invokevirtual 367, 3) := by decide +kernel
theorem dX12_bookTakes_40 : decode cX12_bookTakes 40 = .ok (.aload_n 0, 1) := by decide +kernel
theorem dX12_bookTakes_41 : decode cX12_bookTakes 41 = .ok (.iload_n 1, 1) := by decide +kernel
theorem dX12_bookTakes_42 : decode cX12_bookTakes 42 = .ok (.iconst 1, 1) := by decide +kernel
theorem dX12_bookTakes_43 : decode cX12_bookTakes 43 = .ok (.invokevirtual 364, 3) := by decide +kernel
theorem dX12_bookTakes_46 : decode cX12_bookTakes 46 = .ok (.invokestatic 370, 3) := by decide +kernel
theorem dX12_bookTakes_49 : decode cX12_bookTakes 49 = .ok (.istore_n 3, 1) := by decide +kernel
theorem dX12_bookTakes_50 : decode cX12_bookTakes 50 = .ok (.iload_n 3, 1) := by decide +kernel
theorem dX12_bookTakes_51 : decode cX12_bookTakes 51 = .ok (.aload_n 0, 1) := by decide +kernel
theorem dX12_bookTakes_52 : decode cX12_bookTakes 52 = .ok (.getfield 374, 3) := by decide +kernel
theorem dX12_bookTakes_55 : decode cX12_bookTakes 55 = .ok (.if_icmp .le 8, 3) := by decide +kernel
theorem dX12_bookTakes_58 : decode cX12_bookTakes 58 = .ok (.aload_n 0, 1) := by decide +kernel
theorem dX12_bookTakes_59 : decode cX12_bookTakes 59 = .ok (.iload_n 3, 1) := by decide +kernel
theorem dX12_bookTakes_60 : decode cX12_bookTakes 60 = .ok (.putfield 374, 3) := by decide +kernel
theorem dX12_bookTakes_63 : decode cX12_bookTakes 63 = .ok (.aload_n 0, 1) := by decide +kernel
theorem dX12_bookTakes_64 : decode cX12_bookTakes 64 = .ok (.iload_n 1, 1) := by decide +kernel
theorem dX12_bookTakes_65 : decode cX12_bookTakes 65 = .ok (.invokevirtual 377, 3) := by decide +kernel
theorem dX12_bookTakes_68 : decode cX12_bookTakes 68 = .ok (.iconst 0, 1) := by decide +kernel
theorem dX12_bookTakes_69 : decode cX12_bookTakes 69 = .ok (.istore 4, 2) := by decide +kernel
theorem dX12_bookTakes_71 : decode cX12_bookTakes 71 = .ok (.iload 4, 2) := by decide +kernel
theorem dX12_bookTakes_73 : decode cX12_bookTakes 73 = .ok (.aload_n 0, 1) := by decide +kernel
theorem dX12_bookTakes_74 : decode cX12_bookTakes 74 = .ok (.getfield 51, 3) := by decide +kernel
theorem dX12_bookTakes_77 : decode cX12_bookTakes 77 = .ok (.iconst 3, 1) := by decide +kernel
theorem dX12_bookTakes_78 : decode cX12_bookTakes 78 = .ok (.iaload, 1) := by decide +kernel
theorem dX12_bookTakes_79 : decode cX12_bookTakes 79 = .ok (.if_icmp .ge 38, 3) := by decide +kernel
theorem dX12_bookTakes_82 : decode cX12_bookTakes 82 = .ok (.aload_n 0, 1) := by decide +kernel
theorem dX12_bookTakes_83 : decode cX12_bookTakes 83 = .ok (.getfield 90, 3) := by decide +kernel
theorem dX12_bookTakes_86 : decode cX12_bookTakes 86 = .ok (.bipush 9, 2) := by decide +kernel
theorem dX12_bookTakes_88 : decode cX12_bookTakes 88 = .ok (.iload 4, 2) := by decide +kernel
theorem dX12_bookTakes_90 : decode cX12_bookTakes 90 = .ok (.imul, 1) := by decide +kernel
theorem dX12_bookTakes_91 : decode cX12_bookTakes 91 = .ok (.aload_n 0, 1) := by decide +kernel
theorem dX12_bookTakes_92 : decode cX12_bookTakes 92 = .ok (.iload_n 1, 1) := by decide +kernel
theorem dX12_bookTakes_93 : decode cX12_bookTakes 93 = .ok (.iconst 2, 1) := by decide +kernel
theorem dX12_bookTakes_94 : decode cX12_bookTakes 94 = .ok (.iload 4, 2) := by decide +kernel
theorem dX12_bookTakes_96 : decode cX12_bookTakes 96 = .ok (.iadd, 1) := by decide +kernel
theorem dX12_bookTakes_97 : decode cX12_bookTakes 97 = .ok (.invokevirtual 364, 3) := by decide +kernel
theorem dX12_bookTakes_100 : decode cX12_bookTakes 100 = .ok (.aload_n 0, 1) := by decide +kernel
theorem dX12_bookTakes_101 : decode cX12_bookTakes 101 = .ok (.getfield 358, 3) := by decide +kernel
theorem dX12_bookTakes_104 : decode cX12_bookTakes 104 = .ok (.irem, 1) := by decide +kernel
theorem dX12_bookTakes_105 : decode cX12_bookTakes 105 = .ok (.iadd, 1) := by decide +kernel
theorem dX12_bookTakes_106 : decode cX12_bookTakes 106 = .ok (.dup2, 1) := by decide +kernel
theorem dX12_bookTakes_107 : decode cX12_bookTakes 107 = .ok (.iaload, 1) := by decide +kernel
theorem dX12_bookTakes_108 : decode cX12_bookTakes 108 = .ok (.iconst 1, 1) := by decide +kernel
theorem dX12_bookTakes_109 : decode cX12_bookTakes 109 = .ok (.iadd, 1) := by decide +kernel
theorem dX12_bookTakes_110 : decode cX12_bookTakes 110 = .ok (.iastore, 1) := by decide +kernel
theorem dX12_bookTakes_111 : decode cX12_bookTakes 111 = .ok (.iinc 4 1, 3) := by decide +kernel
theorem dX12_bookTakes_114 : decode cX12_bookTakes 114 = .ok (.goto (-43), 3) := by decide +kernel
theorem dX12_bookTakes_117 : decode cX12_bookTakes 117 = .ok (.aload_n 0, 1) := by decide +kernel
theorem dX12_bookTakes_118 : decode cX12_bookTakes 118 = .ok (.getfield 93, 3) := by decide +kernel
theorem dX12_bookTakes_121 : decode cX12_bookTakes 121 = .ok (.aload_n 0, 1) := by decide +kernel
theorem dX12_bookTakes_122 : decode cX12_bookTakes 122 = .ok (.iload_n 1, 1) := by decide +kernel
theorem dX12_bookTakes_123 : decode cX12_bookTakes 123 = .ok (.iconst 5, 1) := by decide +kernel
theorem dX12_bookTakes_124 : decode cX12_bookTakes 124 = .ok (.invokevirtual 364, 3) := by decide +kernel
theorem dX12_bookTakes_127 : decode cX12_bookTakes 127 = .ok (.bipush 8, 2) := by decide +kernel
theorem dX12_bookTakes_129 : decode cX12_bookTakes 129 = .ok (.aload_n 0, 1) := by decide +kernel
theorem dX12_bookTakes_130 : decode cX12_bookTakes 130 = .ok (.getfield 358, 3) := by decide +kernel
theorem dX12_bookTakes_133 : decode cX12_bookTakes 133 = .ok (.imul, 1) := by decide +kernel
theorem dX12_bookTakes_134 : decode cX12_bookTakes 134 = .ok (.irem, 1) := by decide +kernel
theorem dX12_bookTakes_135 : decode cX12_bookTakes 135 = .ok (.iconst 1, 1) := by decide +kernel
theorem dX12_bookTakes_136 : decode cX12_bookTakes 136 = .ok (.bastore, 1) := by decide +kernel
theorem dX12_bookTakes_137 : decode cX12_bookTakes 137 = .ok (.aload_n 0, 1) := by decide +kernel
theorem dX12_bookTakes_138 : decode cX12_bookTakes 138 = .ok (.getfield 93, 3) := by decide +kernel
theorem dX12_bookTakes_141 : decode cX12_bookTakes 141 = .ok (.aload_n 0, 1) := by decide +kernel
theorem dX12_bookTakes_142 : decode cX12_bookTakes 142 = .ok (.iload_n 1, 1) := by decide +kernel
theorem dX12_bookTakes_143 : decode cX12_bookTakes 143 = .ok (.bipush 6, 2) := by decide +kernel
theorem dX12_bookTakes_145 : decode cX12_bookTakes 145 = .ok (.invokevirtual 364, 3) := by decide +kernel
theorem dX12_bookTakes_148 : decode cX12_bookTakes 148 = .ok (.bipush 8, 2) := by decide +kernel
theorem dX12_bookTakes_150 : decode cX12_bookTakes 150 = .ok (.aload_n 0, 1) := by decide +kernel
theorem dX12_bookTakes_151 : decode cX12_bookTakes 151 = .ok (.getfield 358, 3) := by decide +kernel
theorem dX12_bookTakes_154 : decode cX12_bookTakes 154 = .ok (.imul, 1) := by decide +kernel
theorem dX12_bookTakes_155 : decode cX12_bookTakes 155 = .ok (.irem, 1) := by decide +kernel
theorem dX12_bookTakes_156 : decode cX12_bookTakes 156 = .ok (.iconst 1, 1) := by decide +kernel
theorem dX12_bookTakes_157 : decode cX12_bookTakes 157 = .ok (.bastore, 1) := by decide +kernel
theorem dX12_bookTakes_158 : decode cX12_bookTakes 158 = .ok (.aload_n 0, 1) := by decide +kernel
theorem dX12_bookTakes_159 : decode cX12_bookTakes 159 = .ok (.getfield 97, 3) := by decide +kernel
theorem dX12_bookTakes_162 : decode cX12_bookTakes 162 = .ok (.iload_n 2, 1) := by decide +kernel
theorem dX12_bookTakes_163 : decode cX12_bookTakes 163 = .ok (.aload_n 0, 1) := by decide +kernel
theorem dX12_bookTakes_164 : decode cX12_bookTakes 164 = .ok (.getfield 358, 3) := by decide +kernel
theorem dX12_bookTakes_167 : decode cX12_bookTakes 167 = .ok (.imul, 1) := by decide +kernel
theorem dX12_bookTakes_168 : decode cX12_bookTakes 168 = .ok (.bipush 100, 2) := by decide +kernel
theorem dX12_bookTakes_170 : decode cX12_bookTakes 170 = .ok (.idiv, 1) := by decide +kernel
theorem dX12_bookTakes_171 : decode cX12_bookTakes 171 = .ok (.dup2, 1) := by decide +kernel
theorem dX12_bookTakes_172 : decode cX12_bookTakes 172 = .ok (.iaload, 1) := by decide +kernel
theorem dX12_bookTakes_173 : decode cX12_bookTakes 173 = .ok (.iconst 1, 1) := by decide +kernel
theorem dX12_bookTakes_174 : decode cX12_bookTakes 174 = .ok (.iadd, 1) := by decide +kernel
theorem dX12_bookTakes_175 : decode cX12_bookTakes 175 = .ok (.iastore, 1) := by decide +kernel
theorem dX12_bookTakes_176 : decode cX12_bookTakes 176 = .ok (.iconst 0, 1) := by decide +kernel
theorem dX12_bookTakes_177 : decode cX12_bookTakes 177 = .ok (.istore 4, 2) := by decide +kernel
theorem dX12_bookTakes_179 : decode cX12_bookTakes 179 = .ok (.iload 4, 2) := by decide +kernel
theorem dX12_bookTakes_181 : decode cX12_bookTakes 181 = .ok (.aload_n 0, 1) := by decide +kernel
theorem dX12_bookTakes_182 : decode cX12_bookTakes 182 = .ok (.getfield 358, 3) := by decide +kernel
theorem dX12_bookTakes_185 : decode cX12_bookTakes 185 = .ok (.if_icmp .ge 51, 3) := by decide +kernel
theorem dX12_bookTakes_188 : decode cX12_bookTakes 188 = .ok (.aload_n 0, 1) := by decide +kernel
theorem dX12_bookTakes_189 : decode cX12_bookTakes 189 = .ok (.getfield 100, 3) := by decide +kernel
theorem dX12_bookTakes_192 : decode cX12_bookTakes 192 = .ok (.iload 4, 2) := by decide +kernel
theorem dX12_bookTakes_194 : decode cX12_bookTakes 194 = .ok (.iaload, 1) := by decide +kernel
theorem dX12_bookTakes_195 : decode cX12_bookTakes 195 = .ok (.iconst (-1), 1) := by decide +kernel
theorem dX12_bookTakes_196 : decode cX12_bookTakes 196 = .ok (.if_icmp .eq 20, 3) := by decide +kernel
theorem dX12_bookTakes_199 : decode cX12_bookTakes 199 = .ok (.aload_n 0, 1) := by decide +kernel
theorem dX12_bookTakes_200 : decode cX12_bookTakes 200 = .ok (.iload_n 1, 1) := by decide +kernel
theorem dX12_bookTakes_201 : decode cX12_bookTakes 201 = .ok (.iload 4, 2) := by decide +kernel
theorem dX12_bookTakes_203 : decode cX12_bookTakes 203 = .ok (.invokevirtual 364, 3) := by decide +kernel
theorem dX12_bookTakes_206 : decode cX12_bookTakes 206 = .ok (.aload_n 0, 1) := by decide +kernel
theorem dX12_bookTakes_207 : decode cX12_bookTakes 207 = .ok (.getfield 100, 3) := by decide +kernel
theorem dX12_bookTakes_210 : decode cX12_bookTakes 210 = .ok (.iload 4, 2) := by decide +kernel
theorem dX12_bookTakes_212 : decode cX12_bookTakes 212 = .ok (.iaload, 1) := by decide +kernel
theorem dX12_bookTakes_213 : decode cX12_bookTakes 213 = .ok (.if_icmp .ge 17, 3) := by decide +kernel
theorem dX12_bookTakes_216 : decode cX12_bookTakes 216 = .ok (.aload_n 0, 1) := by decide +kernel
theorem dX12_bookTakes_217 : decode cX12_bookTakes 217 = .ok (.getfield 100, 3) := by decide +kernel
theorem dX12_bookTakes_220 : decode cX12_bookTakes 220 = .ok (.iload 4, 2) := by decide +kernel
theorem dX12_bookTakes_222 : decode cX12_bookTakes 222 = .ok (.aload_n 0, 1) := by decide +kernel
theorem dX12_bookTakes_223 : decode cX12_bookTakes 223 = .ok (.iload_n 1, 1) := by decide +kernel
theorem dX12_bookTakes_224 : decode cX12_bookTakes 224 = .ok (.iload 4, 2) := by decide +kernel
theorem dX12_bookTakes_226 : decode cX12_bookTakes 226 = .ok (.invokevirtual 364, 3) := by decide +kernel
theorem dX12_bookTakes_229 : decode cX12_bookTakes 229 = .ok (.iastore, 1) := by decide +kernel
theorem dX12_bookTakes_230 : decode cX12_bookTakes 230 = .ok (.iinc 4 1, 3) := by decide +kernel
theorem dX12_bookTakes_233 : decode cX12_bookTakes 233 = .ok (.goto (-54), 3) := by decide +kernel
theorem dX12_bookTakes_236 : decode cX12_bookTakes 236 = .ok (.return_, 1) := by decide +kernel
set_option maxRecDepth 20000 in
theorem bk_X12_bookTakes_0 {d : Nat} {w : hb_W} {Q : Option hb_V → hb_W → Prop} {x1 : Int32} {x2 : Int32} (h : vp_in x1 64 ∧ (vp_in x1 64 ∧ (vp_in x2 100 ∧ (vp_in x2 100 ∧ (hb_O yX12_marked cX12_marked 3 (some .int) d [hb_r 12 0 0, hb_i x1, hb_i (0 : Int32)] (hb_sI (hb_sI (hb_pI w 12 40 0 ((hb_fI w 12 40 0) + (1 : Int32))) 12 21 0 (upd (hb_aI w 12 21 0) x1.toNatClampNeg ((hb_aI w 12 21 0 x1.toNatClampNeg) + (1 : Int32)))) 12 30 0 (upd (hb_aI w 12 30 0) x2.toNatClampNeg ((hb_aI w 12 30 0 x2.toNatClampNeg) + (1 : Int32)))) (fun rv w1 => hb_R yX12_bookTakes cX12_bookTakes 5 none (d + 1) 37 [some (hb_r 12 0 0), some (hb_i x1), some (hb_i x2), none, none] (rv.toList ++ [hb_r 12 0 0]) w1 Q)))))) : hb_R yX12_bookTakes cX12_bookTakes 5 none (d + 1) 0 [some (hb_r 12 0 0), some (hb_i x1), some (hb_i x2), none, none] [] w Q := by
  refine hb_aload_n (pc := 0) (i := 0) dX12_bookTakes_0 rfl rfl ?_
  refine hb_dupr (pc := 1) dX12_bookTakes_1 ?_
  refine hb_getIx (pc := 2) (x := hb_fI w 12 40 0) dX12_bookTakes_2 fw_X12_361 cw_12 rfl (by decide) rfl rfl ?_
  refine hb_iconst (pc := 5) (v := 1) dX12_bookTakes_5 (by decide) ?_
  refine hb_iadd (pc := 6) dX12_bookTakes_6 ?_
  refine hb_putI (pc := 7) dX12_bookTakes_7 fw_X12_361 cw_12 pw_12_40 rfl (by decide) rfl rfl rfl ?_
  refine hb_aload_n (pc := 10) (i := 0) dX12_bookTakes_10 rfl rfl ?_
  refine hb_getR (pc := 11) (g1 := 0) dX12_bookTakes_11 fw_X12_75 cw_12 rfl (by decide) rfl (by decide) rfl ?_
  refine hb_iload_n (pc := 14) (i := 1) dX12_bookTakes_14 rfl rfl ?_
  refine hb_dup2ir (pc := 15) dX12_bookTakes_15 ?_
  obtain ⟨ho1, hr1⟩ := h
  refine hb_ialdx (pc := 16) (x := hb_aI w 12 21 0 x1.toNatClampNeg) dX12_bookTakes_16 rfl (by decide) ho1 rfl ?_
  refine hb_iconst (pc := 17) (v := 1) dX12_bookTakes_17 (by decide) ?_
  refine hb_iadd (pc := 18) dX12_bookTakes_18 ?_
  obtain ⟨ho2, hr2⟩ := hr1
  refine hb_iastx (pc := 19) (f := upd (hb_aI w 12 21 0) x1.toNatClampNeg ((hb_aI w 12 21 0 x1.toNatClampNeg) + (1 : Int32))) dX12_bookTakes_19 rfl (by decide) ho2 rfl ?_
  refine hb_aload_n (pc := 20) (i := 0) dX12_bookTakes_20 rfl rfl ?_
  refine hb_getR (pc := 21) (g1 := 0) dX12_bookTakes_21 fw_X12_103 cw_12 rfl (by decide) rfl (by decide) rfl ?_
  refine hb_iload_n (pc := 24) (i := 2) dX12_bookTakes_24 rfl rfl ?_
  refine hb_dup2ir (pc := 25) dX12_bookTakes_25 ?_
  obtain ⟨ho3, hr3⟩ := hr2
  refine hb_ialdx (pc := 26) (x := hb_aI w 12 30 0 x2.toNatClampNeg) dX12_bookTakes_26 rfl (by decide) ho3 rfl ?_
  refine hb_iconst (pc := 27) (v := 1) dX12_bookTakes_27 (by decide) ?_
  refine hb_iadd (pc := 28) dX12_bookTakes_28 ?_
  obtain ⟨ho4, hr4⟩ := hr3
  refine hb_iastx (pc := 29) (f := upd (hb_aI w 12 30 0) x2.toNatClampNeg ((hb_aI w 12 30 0 x2.toNatClampNeg) + (1 : Int32))) dX12_bookTakes_29 rfl (by decide) ho4 rfl ?_
  refine hb_aload_n (pc := 30) (i := 0) dX12_bookTakes_30 rfl rfl ?_
  refine hb_aload_n (pc := 31) (i := 0) dX12_bookTakes_31 rfl rfl ?_
  refine hb_iload_n (pc := 32) (i := 1) dX12_bookTakes_32 rfl rfl ?_
  refine hb_iconst (pc := 33) (v := 0) dX12_bookTakes_33 (by decide) ?_
  exact hb_callV (pc := 34) (As := [hb_i x1, hb_i (0 : Int32)]) (st := [hb_r 12 0 0]) dX12_bookTakes_34 ml_X12_364 mf_X12_marked mi_X12_marked (ci := 12) rfl rfl (by decide) rfl rfl (Nat.le_of_ble_eq_true rfl) (Nat.le_of_ble_eq_true rfl) hr4 (fun _ _ q => q)
set_option maxRecDepth 20000 in
theorem bk_X12_bookTakes_37 {d : Nat} {w : hb_W} {Q : Option hb_V → hb_W → Prop} {x1 : Int32} {x2 : Int32} {xs1 : Int32} (h : hb_O yX12_leastTakes cX12_leastTakes 4 none d [hb_r 12 0 0, hb_i xs1] w (fun rv w1 => hb_R yX12_bookTakes cX12_bookTakes 5 none (d + 1) 40 [some (hb_r 12 0 0), some (hb_i x1), some (hb_i x2), none, none] (rv.toList ++ []) w1 Q)) : hb_R yX12_bookTakes cX12_bookTakes 5 none (d + 1) 37 [some (hb_r 12 0 0), some (hb_i x1), some (hb_i x2), none, none] [hb_i xs1, hb_r 12 0 0] w Q := by
  exact hb_callV (pc := 37) (As := [hb_i xs1]) (st := []) dX12_bookTakes_37 ml_X12_367 mf_X12_leastTakes mi_X12_leastTakes (ci := 12) rfl rfl (by decide) rfl rfl (Nat.le_of_ble_eq_true rfl) (Nat.le_of_ble_eq_true rfl) h (fun _ _ q => q)
set_option maxRecDepth 20000 in
theorem bk_X12_bookTakes_40 {d : Nat} {w : hb_W} {Q : Option hb_V → hb_W → Prop} {x1 : Int32} {x2 : Int32} (h : hb_O yX12_marked cX12_marked 3 (some .int) d [hb_r 12 0 0, hb_i x1, hb_i (1 : Int32)] w (fun rv w1 => hb_R yX12_bookTakes cX12_bookTakes 5 none (d + 1) 46 [some (hb_r 12 0 0), some (hb_i x1), some (hb_i x2), none, none] (rv.toList ++ []) w1 Q)) : hb_R yX12_bookTakes cX12_bookTakes 5 none (d + 1) 40 [some (hb_r 12 0 0), some (hb_i x1), some (hb_i x2), none, none] [] w Q := by
  refine hb_aload_n (pc := 40) (i := 0) dX12_bookTakes_40 rfl rfl ?_
  refine hb_iload_n (pc := 41) (i := 1) dX12_bookTakes_41 rfl rfl ?_
  refine hb_iconst (pc := 42) (v := 1) dX12_bookTakes_42 (by decide) ?_
  exact hb_callV (pc := 43) (As := [hb_i x1, hb_i (1 : Int32)]) (st := []) dX12_bookTakes_43 ml_X12_364 mf_X12_marked mi_X12_marked (ci := 12) rfl rfl (by decide) rfl rfl (Nat.le_of_ble_eq_true rfl) (Nat.le_of_ble_eq_true rfl) h (fun _ _ q => q)
set_option maxRecDepth 20000 in
theorem bk_X12_bookTakes_46 {d : Nat} {w : hb_W} {Q : Option hb_V → hb_W → Prop} {x1 : Int32} {x2 : Int32} {xs0 : Int32} (h : hb_O yX12_noughts cX12_noughts 3 (some .int) d [hb_i xs0] w (fun rv w1 => hb_R yX12_bookTakes cX12_bookTakes 5 none (d + 1) 49 [some (hb_r 12 0 0), some (hb_i x1), some (hb_i x2), none, none] (rv.toList ++ []) w1 Q)) : hb_R yX12_bookTakes cX12_bookTakes 5 none (d + 1) 46 [some (hb_r 12 0 0), some (hb_i x1), some (hb_i x2), none, none] [hb_i xs0] w Q := by
  exact hb_callS (pc := 46) (As := [hb_i xs0]) (st := []) dX12_bookTakes_46 ml_X12_370 mf_X12_noughts ms_X12_noughts rfl rfl (Nat.le_of_ble_eq_true rfl) (Nat.le_of_ble_eq_true rfl) h (fun _ _ q => q)
set_option maxRecDepth 20000 in
theorem bk_X12_bookTakes_49 {d : Nat} {w : hb_W} {Q : Option hb_V → hb_W → Prop} {x1 : Int32} {x2 : Int32} {xs0 : Int32} (h : ((xs0 ≤ (hb_fI w 12 45 0)) → hb_O yX12_oftenTakes cX12_oftenTakes 3 none d [hb_r 12 0 0, hb_i x1] w (fun rv w1 => hb_R yX12_bookTakes cX12_bookTakes 5 none (d + 1) 68 [some (hb_r 12 0 0), some (hb_i x1), some (hb_i x2), some (hb_i xs0), none] (rv.toList ++ []) w1 Q)) ∧ ((¬ xs0 ≤ (hb_fI w 12 45 0)) → hb_O yX12_oftenTakes cX12_oftenTakes 3 none d [hb_r 12 0 0, hb_i x1] (hb_pI w 12 45 0 xs0) (fun rv w1 => hb_R yX12_bookTakes cX12_bookTakes 5 none (d + 1) 68 [some (hb_r 12 0 0), some (hb_i x1), some (hb_i x2), some (hb_i xs0), none] (rv.toList ++ []) w1 Q))) : hb_R yX12_bookTakes cX12_bookTakes 5 none (d + 1) 49 [some (hb_r 12 0 0), some (hb_i x1), some (hb_i x2), none, none] [hb_i xs0] w Q := by
  refine hb_istore_n (pc := 49) (i := 3) (ls1 := [some (hb_r 12 0 0), some (hb_i x1), some (hb_i x2), some (hb_i xs0), none]) dX12_bookTakes_49 rfl (by decide) rfl ?_
  refine hb_iload_n (pc := 50) (i := 3) dX12_bookTakes_50 rfl rfl ?_
  refine hb_aload_n (pc := 51) (i := 0) dX12_bookTakes_51 rfl rfl ?_
  refine hb_getIx (pc := 52) (x := hb_fI w 12 45 0) dX12_bookTakes_52 fw_X12_374 cw_12 rfl (by decide) rfl rfl ?_
  refine hb_icmp_le (pc := 55) (tgt := 63) dX12_bookTakes_55 (by decide) (fun c1 => ?_) (fun c1 => ?_)
  · have ht1 := h.1 c1
    refine hb_aload_n (pc := 63) (i := 0) dX12_bookTakes_63 rfl rfl ?_
    refine hb_iload_n (pc := 64) (i := 1) dX12_bookTakes_64 rfl rfl ?_
    exact hb_callV (pc := 65) (As := [hb_i x1]) (st := []) dX12_bookTakes_65 ml_X12_377 mf_X12_oftenTakes mi_X12_oftenTakes (ci := 12) rfl rfl (by decide) rfl rfl (Nat.le_of_ble_eq_true rfl) (Nat.le_of_ble_eq_true rfl) ht1 (fun _ _ q => q)
  · have ht1 := h.2 c1
    refine hb_aload_n (pc := 58) (i := 0) dX12_bookTakes_58 rfl rfl ?_
    refine hb_iload_n (pc := 59) (i := 3) dX12_bookTakes_59 rfl rfl ?_
    refine hb_putI (pc := 60) dX12_bookTakes_60 fw_X12_374 cw_12 pw_12_45 rfl (by decide) rfl rfl rfl ?_
    refine hb_aload_n (pc := 63) (i := 0) dX12_bookTakes_63 rfl rfl ?_
    refine hb_iload_n (pc := 64) (i := 1) dX12_bookTakes_64 rfl rfl ?_
    exact hb_callV (pc := 65) (As := [hb_i x1]) (st := []) dX12_bookTakes_65 ml_X12_377 mf_X12_oftenTakes mi_X12_oftenTakes (ci := 12) rfl rfl (by decide) rfl rfl (Nat.le_of_ble_eq_true rfl) (Nat.le_of_ble_eq_true rfl) ht1 (fun _ _ q => q)
set_option maxRecDepth 20000 in
theorem bk_X12_bookTakes_68 {d : Nat} {w : hb_W} {Q : Option hb_V → hb_W → Prop} {x1 : Int32} {x2 : Int32} {x3 : Int32} (h : hb_R yX12_bookTakes cX12_bookTakes 5 none (d + 1) 71 [some (hb_r 12 0 0), some (hb_i x1), some (hb_i x2), some (hb_i x3), some (hb_i (0 : Int32))] [] w Q) : hb_R yX12_bookTakes cX12_bookTakes 5 none (d + 1) 68 [some (hb_r 12 0 0), some (hb_i x1), some (hb_i x2), some (hb_i x3), none] [] w Q := by
  refine hb_iconst (pc := 68) (v := 0) dX12_bookTakes_68 (by decide) ?_
  refine hb_istore (pc := 69) (i := 4) (ls1 := [some (hb_r 12 0 0), some (hb_i x1), some (hb_i x2), some (hb_i x3), some (hb_i (0 : Int32))]) dX12_bookTakes_69 (by decide) rfl ?_
  exact h
set_option maxRecDepth 20000 in
theorem bk_X12_bookTakes_71 {d : Nat} {w : hb_W} {Q : Option hb_V → hb_W → Prop} {x1 : Int32} {x2 : Int32} {x3 : Int32} {x4 : Int32} (h : (((hb_aI w 12 13 0 (3 : Int32).toNatClampNeg) ≤ x4) → hb_O yX12_marked cX12_marked 3 (some .int) d [hb_r 12 0 0, hb_i x1, hb_i (5 : Int32)] w (fun rv w1 => hb_R yX12_bookTakes cX12_bookTakes 5 none (d + 1) 127 [some (hb_r 12 0 0), some (hb_i x1), some (hb_i x2), some (hb_i x3), some (hb_i x4)] (rv.toList ++ [hb_r 12 0 27]) w1 Q)) ∧ ((¬ (hb_aI w 12 13 0 (3 : Int32).toNatClampNeg) ≤ x4) → hb_O yX12_marked cX12_marked 3 (some .int) d [hb_r 12 0 0, hb_i x1, hb_i ((2 : Int32) + x4)] w (fun rv w1 => hb_R yX12_bookTakes cX12_bookTakes 5 none (d + 1) 100 [some (hb_r 12 0 0), some (hb_i x1), some (hb_i x2), some (hb_i x3), some (hb_i x4)] (rv.toList ++ [hb_i ((9 : Int32) * x4), hb_r 12 0 26]) w1 Q))) : hb_R yX12_bookTakes cX12_bookTakes 5 none (d + 1) 71 [some (hb_r 12 0 0), some (hb_i x1), some (hb_i x2), some (hb_i x3), some (hb_i x4)] [] w Q := by
  refine hb_iload (pc := 71) dX12_bookTakes_71 rfl ?_
  refine hb_aload_n (pc := 73) (i := 0) dX12_bookTakes_73 rfl rfl ?_
  refine hb_getR (pc := 74) (g1 := 0) dX12_bookTakes_74 fw_X12_51 cw_12 rfl (by decide) rfl (by decide) rfl ?_
  refine hb_iconst (pc := 77) (v := 3) dX12_bookTakes_77 (by decide) ?_
  refine hb_ialdx (pc := 78) (x := hb_aI w 12 13 0 (3 : Int32).toNatClampNeg) dX12_bookTakes_78 (n := 6) rfl (by decide) (by unfold vp_in; decide) rfl ?_
  refine hb_icmp_ge (pc := 79) (tgt := 117) dX12_bookTakes_79 (by decide) (fun c1 => ?_) (fun c1 => ?_)
  · have ht1 := h.1 c1
    refine hb_aload_n (pc := 117) (i := 0) dX12_bookTakes_117 rfl rfl ?_
    refine hb_getR (pc := 118) (g1 := 0) dX12_bookTakes_118 fw_X12_93 cw_12 rfl (by decide) rfl (by decide) rfl ?_
    refine hb_aload_n (pc := 121) (i := 0) dX12_bookTakes_121 rfl rfl ?_
    refine hb_iload_n (pc := 122) (i := 1) dX12_bookTakes_122 rfl rfl ?_
    refine hb_iconst (pc := 123) (v := 5) dX12_bookTakes_123 (by decide) ?_
    exact hb_callV (pc := 124) (As := [hb_i x1, hb_i (5 : Int32)]) (st := [hb_r 12 0 27]) dX12_bookTakes_124 ml_X12_364 mf_X12_marked mi_X12_marked (ci := 12) rfl rfl (by decide) rfl rfl (Nat.le_of_ble_eq_true rfl) (Nat.le_of_ble_eq_true rfl) ht1 (fun _ _ q => q)
  · have ht1 := h.2 c1
    refine hb_aload_n (pc := 82) (i := 0) dX12_bookTakes_82 rfl rfl ?_
    refine hb_getR (pc := 83) (g1 := 0) dX12_bookTakes_83 fw_X12_90 cw_12 rfl (by decide) rfl (by decide) rfl ?_
    refine hb_bipush (pc := 86) (v := 9) dX12_bookTakes_86 (by decide) ?_
    refine hb_iload (pc := 88) dX12_bookTakes_88 rfl ?_
    refine hb_imul (pc := 90) dX12_bookTakes_90 ?_
    refine hb_aload_n (pc := 91) (i := 0) dX12_bookTakes_91 rfl rfl ?_
    refine hb_iload_n (pc := 92) (i := 1) dX12_bookTakes_92 rfl rfl ?_
    refine hb_iconst (pc := 93) (v := 2) dX12_bookTakes_93 (by decide) ?_
    refine hb_iload (pc := 94) dX12_bookTakes_94 rfl ?_
    refine hb_iadd (pc := 96) dX12_bookTakes_96 ?_
    exact hb_callV (pc := 97) (As := [hb_i x1, hb_i ((2 : Int32) + x4)]) (st := [hb_i ((9 : Int32) * x4), hb_r 12 0 26]) dX12_bookTakes_97 ml_X12_364 mf_X12_marked mi_X12_marked (ci := 12) rfl rfl (by decide) rfl rfl (Nat.le_of_ble_eq_true rfl) (Nat.le_of_ble_eq_true rfl) ht1 (fun _ _ q => q)
set_option maxRecDepth 20000 in
theorem bk_X12_bookTakes_100 {d : Nat} {w : hb_W} {Q : Option hb_V → hb_W → Prop} {x1 : Int32} {x2 : Int32} {x3 : Int32} {x4 : Int32} {xs1 : Int32} {xs2 : Int32} (h : ¬ hb_fI w 12 39 0 = 0 ∧ (vp_in (xs1 + (xs2 - xs2 / (hb_fI w 12 39 0) * (hb_fI w 12 39 0))) 27 ∧ (vp_in (xs1 + (xs2 - xs2 / (hb_fI w 12 39 0) * (hb_fI w 12 39 0))) 27 ∧ (hb_R yX12_bookTakes cX12_bookTakes 5 none (d + 1) 71 [some (hb_r 12 0 0), some (hb_i x1), some (hb_i x2), some (hb_i x3), some (hb_i (x4 + (1 : Int32)))] [] (hb_sI w 12 26 0 (upd (hb_aI w 12 26 0) (xs1 + (xs2 - xs2 / (hb_fI w 12 39 0) * (hb_fI w 12 39 0))).toNatClampNeg ((hb_aI w 12 26 0 (xs1 + (xs2 - xs2 / (hb_fI w 12 39 0) * (hb_fI w 12 39 0))).toNatClampNeg) + (1 : Int32)))) Q)))) : hb_R yX12_bookTakes cX12_bookTakes 5 none (d + 1) 100 [some (hb_r 12 0 0), some (hb_i x1), some (hb_i x2), some (hb_i x3), some (hb_i x4)] [hb_i xs2, hb_i xs1, hb_r 12 0 26] w Q := by
  refine hb_aload_n (pc := 100) (i := 0) dX12_bookTakes_100 rfl rfl ?_
  refine hb_getIx (pc := 101) (x := hb_fI w 12 39 0) dX12_bookTakes_101 fw_X12_358 cw_12 rfl (by decide) rfl rfl ?_
  obtain ⟨ho1, hr1⟩ := h
  refine hb_irem (pc := 104) dX12_bookTakes_104 ho1 ?_
  refine hb_iadd (pc := 105) dX12_bookTakes_105 ?_
  refine hb_dup2ir (pc := 106) dX12_bookTakes_106 ?_
  obtain ⟨ho2, hr2⟩ := hr1
  refine hb_ialdx (pc := 107) (x := hb_aI w 12 26 0 (xs1 + (xs2 - xs2 / (hb_fI w 12 39 0) * (hb_fI w 12 39 0))).toNatClampNeg) dX12_bookTakes_107 rfl (by decide) ho2 rfl ?_
  refine hb_iconst (pc := 108) (v := 1) dX12_bookTakes_108 (by decide) ?_
  refine hb_iadd (pc := 109) dX12_bookTakes_109 ?_
  obtain ⟨ho3, hr3⟩ := hr2
  refine hb_iastx (pc := 110) (f := upd (hb_aI w 12 26 0) (xs1 + (xs2 - xs2 / (hb_fI w 12 39 0) * (hb_fI w 12 39 0))).toNatClampNeg ((hb_aI w 12 26 0 (xs1 + (xs2 - xs2 / (hb_fI w 12 39 0) * (hb_fI w 12 39 0))).toNatClampNeg) + (1 : Int32))) dX12_bookTakes_110 rfl (by decide) ho3 rfl ?_
  refine hb_iinc (pc := 111) (v := x4 + (1 : Int32)) (ls1 := [some (hb_r 12 0 0), some (hb_i x1), some (hb_i x2), some (hb_i x3), some (hb_i (x4 + (1 : Int32)))]) dX12_bookTakes_111 rfl rfl (by decide) rfl ?_
  refine hb_goto (pc := 114) (tgt := 71) dX12_bookTakes_114 (by decide) ?_
  exact hr3
set_option maxRecDepth 20000 in
theorem bk_X12_bookTakes_127 {d : Nat} {w : hb_W} {Q : Option hb_V → hb_W → Prop} {x1 : Int32} {x2 : Int32} {x3 : Int32} {x4 : Int32} {xs1 : Int32} (h : ¬ (8 : Int32) * (hb_fI w 12 39 0) = 0 ∧ (vp_in (xs1 - xs1 / ((8 : Int32) * (hb_fI w 12 39 0)) * ((8 : Int32) * (hb_fI w 12 39 0))) 72 ∧ (hb_O yX12_marked cX12_marked 3 (some .int) d [hb_r 12 0 0, hb_i x1, hb_i (6 : Int32)] (hb_sI w 12 27 0 (upd (hb_aI w 12 27 0) (xs1 - xs1 / ((8 : Int32) * (hb_fI w 12 39 0)) * ((8 : Int32) * (hb_fI w 12 39 0))).toNatClampNeg (vp_nar .boolean (1 : Int32)))) (fun rv w1 => hb_R yX12_bookTakes cX12_bookTakes 5 none (d + 1) 148 [some (hb_r 12 0 0), some (hb_i x1), some (hb_i x2), some (hb_i x3), some (hb_i x4)] (rv.toList ++ [hb_r 12 0 27]) w1 Q)))) : hb_R yX12_bookTakes cX12_bookTakes 5 none (d + 1) 127 [some (hb_r 12 0 0), some (hb_i x1), some (hb_i x2), some (hb_i x3), some (hb_i x4)] [hb_i xs1, hb_r 12 0 27] w Q := by
  refine hb_bipush (pc := 127) (v := 8) dX12_bookTakes_127 (by decide) ?_
  refine hb_aload_n (pc := 129) (i := 0) dX12_bookTakes_129 rfl rfl ?_
  refine hb_getIx (pc := 130) (x := hb_fI w 12 39 0) dX12_bookTakes_130 fw_X12_358 cw_12 rfl (by decide) rfl rfl ?_
  refine hb_imul (pc := 133) dX12_bookTakes_133 ?_
  obtain ⟨ho1, hr1⟩ := h
  refine hb_irem (pc := 134) dX12_bookTakes_134 ho1 ?_
  refine hb_iconst (pc := 135) (v := 1) dX12_bookTakes_135 (by decide) ?_
  obtain ⟨ho2, hr2⟩ := hr1
  refine hb_zastx (pc := 136) (f := upd (hb_aI w 12 27 0) (xs1 - xs1 / ((8 : Int32) * (hb_fI w 12 39 0)) * ((8 : Int32) * (hb_fI w 12 39 0))).toNatClampNeg (vp_nar .boolean (1 : Int32))) dX12_bookTakes_136 rfl (by decide) ho2 rfl ?_
  refine hb_aload_n (pc := 137) (i := 0) dX12_bookTakes_137 rfl rfl ?_
  refine hb_getR (pc := 138) (g1 := 0) dX12_bookTakes_138 fw_X12_93 cw_12 rfl (by decide) rfl (by decide) rfl ?_
  refine hb_aload_n (pc := 141) (i := 0) dX12_bookTakes_141 rfl rfl ?_
  refine hb_iload_n (pc := 142) (i := 1) dX12_bookTakes_142 rfl rfl ?_
  refine hb_bipush (pc := 143) (v := 6) dX12_bookTakes_143 (by decide) ?_
  exact hb_callV (pc := 145) (As := [hb_i x1, hb_i (6 : Int32)]) (st := [hb_r 12 0 27]) dX12_bookTakes_145 ml_X12_364 mf_X12_marked mi_X12_marked (ci := 12) rfl rfl (by decide) rfl rfl (Nat.le_of_ble_eq_true rfl) (Nat.le_of_ble_eq_true rfl) hr2 (fun _ _ q => q)
set_option maxRecDepth 20000 in
theorem bk_X12_bookTakes_148 {d : Nat} {w : hb_W} {Q : Option hb_V → hb_W → Prop} {x1 : Int32} {x2 : Int32} {x3 : Int32} {x4 : Int32} {xs1 : Int32} (h : ¬ (8 : Int32) * (hb_fI w 12 39 0) = 0 ∧ (vp_in (xs1 - xs1 / ((8 : Int32) * (hb_fI w 12 39 0)) * ((8 : Int32) * (hb_fI w 12 39 0))) 72 ∧ (vp_in ((x2 * (hb_fI w 12 39 0)) / (100 : Int32)) 9 ∧ (vp_in ((x2 * (hb_fI w 12 39 0)) / (100 : Int32)) 9 ∧ (hb_R yX12_bookTakes cX12_bookTakes 5 none (d + 1) 179 [some (hb_r 12 0 0), some (hb_i x1), some (hb_i x2), some (hb_i x3), some (hb_i (0 : Int32))] [] (hb_sI (hb_sI w 12 27 0 (upd (hb_aI w 12 27 0) (xs1 - xs1 / ((8 : Int32) * (hb_fI w 12 39 0)) * ((8 : Int32) * (hb_fI w 12 39 0))).toNatClampNeg (vp_nar .boolean (1 : Int32)))) 12 28 0 (upd (hb_aI w 12 28 0) ((x2 * (hb_fI w 12 39 0)) / (100 : Int32)).toNatClampNeg ((hb_aI w 12 28 0 ((x2 * (hb_fI w 12 39 0)) / (100 : Int32)).toNatClampNeg) + (1 : Int32)))) Q))))) : hb_R yX12_bookTakes cX12_bookTakes 5 none (d + 1) 148 [some (hb_r 12 0 0), some (hb_i x1), some (hb_i x2), some (hb_i x3), some (hb_i x4)] [hb_i xs1, hb_r 12 0 27] w Q := by
  refine hb_bipush (pc := 148) (v := 8) dX12_bookTakes_148 (by decide) ?_
  refine hb_aload_n (pc := 150) (i := 0) dX12_bookTakes_150 rfl rfl ?_
  refine hb_getIx (pc := 151) (x := hb_fI w 12 39 0) dX12_bookTakes_151 fw_X12_358 cw_12 rfl (by decide) rfl rfl ?_
  refine hb_imul (pc := 154) dX12_bookTakes_154 ?_
  obtain ⟨ho1, hr1⟩ := h
  refine hb_irem (pc := 155) dX12_bookTakes_155 ho1 ?_
  refine hb_iconst (pc := 156) (v := 1) dX12_bookTakes_156 (by decide) ?_
  obtain ⟨ho2, hr2⟩ := hr1
  refine hb_zastx (pc := 157) (f := upd (hb_aI w 12 27 0) (xs1 - xs1 / ((8 : Int32) * (hb_fI w 12 39 0)) * ((8 : Int32) * (hb_fI w 12 39 0))).toNatClampNeg (vp_nar .boolean (1 : Int32))) dX12_bookTakes_157 rfl (by decide) ho2 rfl ?_
  refine hb_aload_n (pc := 158) (i := 0) dX12_bookTakes_158 rfl rfl ?_
  refine hb_getR (pc := 159) (g1 := 0) dX12_bookTakes_159 fw_X12_97 cw_12 rfl (by decide) rfl (by decide) rfl ?_
  refine hb_iload_n (pc := 162) (i := 2) dX12_bookTakes_162 rfl rfl ?_
  refine hb_aload_n (pc := 163) (i := 0) dX12_bookTakes_163 rfl rfl ?_
  refine hb_getIx (pc := 164) (x := hb_fI w 12 39 0) dX12_bookTakes_164 fw_X12_358 cw_12 rfl (by decide) rfl rfl ?_
  refine hb_imul (pc := 167) dX12_bookTakes_167 ?_
  refine hb_bipush (pc := 168) (v := 100) dX12_bookTakes_168 (by decide) ?_
  refine hb_idiv (pc := 170) dX12_bookTakes_170 (by decide) ?_
  refine hb_dup2ir (pc := 171) dX12_bookTakes_171 ?_
  obtain ⟨ho3, hr3⟩ := hr2
  refine hb_ialdx (pc := 172) (x := hb_aI w 12 28 0 ((x2 * (hb_fI w 12 39 0)) / (100 : Int32)).toNatClampNeg) dX12_bookTakes_172 rfl (by decide) ho3 rfl ?_
  refine hb_iconst (pc := 173) (v := 1) dX12_bookTakes_173 (by decide) ?_
  refine hb_iadd (pc := 174) dX12_bookTakes_174 ?_
  obtain ⟨ho4, hr4⟩ := hr3
  refine hb_iastx (pc := 175) (f := upd (hb_aI w 12 28 0) ((x2 * (hb_fI w 12 39 0)) / (100 : Int32)).toNatClampNeg ((hb_aI w 12 28 0 ((x2 * (hb_fI w 12 39 0)) / (100 : Int32)).toNatClampNeg) + (1 : Int32))) dX12_bookTakes_175 rfl (by decide) ho4 rfl ?_
  refine hb_iconst (pc := 176) (v := 0) dX12_bookTakes_176 (by decide) ?_
  refine hb_istore (pc := 177) (i := 4) (ls1 := [some (hb_r 12 0 0), some (hb_i x1), some (hb_i x2), some (hb_i x3), some (hb_i (0 : Int32))]) dX12_bookTakes_177 (by decide) rfl ?_
  exact hr4
set_option maxRecDepth 20000 in
theorem bk_X12_bookTakes_179 {d : Nat} {w : hb_W} {Q : Option hb_V → hb_W → Prop} {x1 : Int32} {x2 : Int32} {x3 : Int32} {x4 : Int32} (h : (((hb_fI w 12 39 0) ≤ x4) → Q none w) ∧ ((¬ (hb_fI w 12 39 0) ≤ x4) → vp_in x4 9 ∧ ((((hb_aI w 12 29 0 x4.toNatClampNeg) = (-1 : Int32)) → hb_O yX12_marked cX12_marked 3 (some .int) d [hb_r 12 0 0, hb_i x1, hb_i x4] w (fun rv w1 => hb_R yX12_bookTakes cX12_bookTakes 5 none (d + 1) 229 [some (hb_r 12 0 0), some (hb_i x1), some (hb_i x2), some (hb_i x3), some (hb_i x4)] (rv.toList ++ [hb_i x4, hb_r 12 0 29]) w1 Q)) ∧ ((¬ (hb_aI w 12 29 0 x4.toNatClampNeg) = (-1 : Int32)) → hb_O yX12_marked cX12_marked 3 (some .int) d [hb_r 12 0 0, hb_i x1, hb_i x4] w (fun rv w1 => hb_R yX12_bookTakes cX12_bookTakes 5 none (d + 1) 206 [some (hb_r 12 0 0), some (hb_i x1), some (hb_i x2), some (hb_i x3), some (hb_i x4)] (rv.toList ++ []) w1 Q))))) : hb_R yX12_bookTakes cX12_bookTakes 5 none (d + 1) 179 [some (hb_r 12 0 0), some (hb_i x1), some (hb_i x2), some (hb_i x3), some (hb_i x4)] [] w Q := by
  refine hb_iload (pc := 179) dX12_bookTakes_179 rfl ?_
  refine hb_aload_n (pc := 181) (i := 0) dX12_bookTakes_181 rfl rfl ?_
  refine hb_getIx (pc := 182) (x := hb_fI w 12 39 0) dX12_bookTakes_182 fw_X12_358 cw_12 rfl (by decide) rfl rfl ?_
  refine hb_icmp_ge (pc := 185) (tgt := 236) dX12_bookTakes_185 (by decide) (fun c1 => ?_) (fun c1 => ?_)
  · have ht1 := h.1 c1
    exact hb_vret (pc := 236) dX12_bookTakes_236 rfl ht1
  · have ht1 := h.2 c1
    refine hb_aload_n (pc := 188) (i := 0) dX12_bookTakes_188 rfl rfl ?_
    refine hb_getR (pc := 189) (g1 := 0) dX12_bookTakes_189 fw_X12_100 cw_12 rfl (by decide) rfl (by decide) rfl ?_
    refine hb_iload (pc := 192) dX12_bookTakes_192 rfl ?_
    obtain ⟨ho2, hr2⟩ := ht1
    refine hb_ialdx (pc := 194) (x := hb_aI w 12 29 0 x4.toNatClampNeg) dX12_bookTakes_194 rfl (by decide) ho2 rfl ?_
    refine hb_iconst (pc := 195) (v := -1) dX12_bookTakes_195 (by decide) ?_
    refine hb_icmp_eq (pc := 196) (tgt := 216) dX12_bookTakes_196 (by decide) (fun c3 => ?_) (fun c3 => ?_)
    · have ht3 := hr2.1 c3
      refine hb_aload_n (pc := 216) (i := 0) dX12_bookTakes_216 rfl rfl ?_
      refine hb_getR (pc := 217) (g1 := 0) dX12_bookTakes_217 fw_X12_100 cw_12 rfl (by decide) rfl (by decide) rfl ?_
      refine hb_iload (pc := 220) dX12_bookTakes_220 rfl ?_
      refine hb_aload_n (pc := 222) (i := 0) dX12_bookTakes_222 rfl rfl ?_
      refine hb_iload_n (pc := 223) (i := 1) dX12_bookTakes_223 rfl rfl ?_
      refine hb_iload (pc := 224) dX12_bookTakes_224 rfl ?_
      exact hb_callV (pc := 226) (As := [hb_i x1, hb_i x4]) (st := [hb_i x4, hb_r 12 0 29]) dX12_bookTakes_226 ml_X12_364 mf_X12_marked mi_X12_marked (ci := 12) rfl rfl (by decide) rfl rfl (Nat.le_of_ble_eq_true rfl) (Nat.le_of_ble_eq_true rfl) ht3 (fun _ _ q => q)
    · have ht3 := hr2.2 c3
      refine hb_aload_n (pc := 199) (i := 0) dX12_bookTakes_199 rfl rfl ?_
      refine hb_iload_n (pc := 200) (i := 1) dX12_bookTakes_200 rfl rfl ?_
      refine hb_iload (pc := 201) dX12_bookTakes_201 rfl ?_
      exact hb_callV (pc := 203) (As := [hb_i x1, hb_i x4]) (st := []) dX12_bookTakes_203 ml_X12_364 mf_X12_marked mi_X12_marked (ci := 12) rfl rfl (by decide) rfl rfl (Nat.le_of_ble_eq_true rfl) (Nat.le_of_ble_eq_true rfl) ht3 (fun _ _ q => q)
set_option maxRecDepth 20000 in
theorem bk_X12_bookTakes_206 {d : Nat} {w : hb_W} {Q : Option hb_V → hb_W → Prop} {x1 : Int32} {x2 : Int32} {x3 : Int32} {x4 : Int32} {xs0 : Int32} (h : vp_in x4 9 ∧ ((((hb_aI w 12 29 0 x4.toNatClampNeg) ≤ xs0) → hb_R yX12_bookTakes cX12_bookTakes 5 none (d + 1) 179 [some (hb_r 12 0 0), some (hb_i x1), some (hb_i x2), some (hb_i x3), some (hb_i (x4 + (1 : Int32)))] [] w Q) ∧ ((¬ (hb_aI w 12 29 0 x4.toNatClampNeg) ≤ xs0) → hb_O yX12_marked cX12_marked 3 (some .int) d [hb_r 12 0 0, hb_i x1, hb_i x4] w (fun rv w1 => hb_R yX12_bookTakes cX12_bookTakes 5 none (d + 1) 229 [some (hb_r 12 0 0), some (hb_i x1), some (hb_i x2), some (hb_i x3), some (hb_i x4)] (rv.toList ++ [hb_i x4, hb_r 12 0 29]) w1 Q)))) : hb_R yX12_bookTakes cX12_bookTakes 5 none (d + 1) 206 [some (hb_r 12 0 0), some (hb_i x1), some (hb_i x2), some (hb_i x3), some (hb_i x4)] [hb_i xs0] w Q := by
  refine hb_aload_n (pc := 206) (i := 0) dX12_bookTakes_206 rfl rfl ?_
  refine hb_getR (pc := 207) (g1 := 0) dX12_bookTakes_207 fw_X12_100 cw_12 rfl (by decide) rfl (by decide) rfl ?_
  refine hb_iload (pc := 210) dX12_bookTakes_210 rfl ?_
  obtain ⟨ho1, hr1⟩ := h
  refine hb_ialdx (pc := 212) (x := hb_aI w 12 29 0 x4.toNatClampNeg) dX12_bookTakes_212 rfl (by decide) ho1 rfl ?_
  refine hb_icmp_ge (pc := 213) (tgt := 230) dX12_bookTakes_213 (by decide) (fun c2 => ?_) (fun c2 => ?_)
  · have ht2 := hr1.1 c2
    refine hb_iinc (pc := 230) (v := x4 + (1 : Int32)) (ls1 := [some (hb_r 12 0 0), some (hb_i x1), some (hb_i x2), some (hb_i x3), some (hb_i (x4 + (1 : Int32)))]) dX12_bookTakes_230 rfl rfl (by decide) rfl ?_
    refine hb_goto (pc := 233) (tgt := 179) dX12_bookTakes_233 (by decide) ?_
    exact ht2
  · have ht2 := hr1.2 c2
    refine hb_aload_n (pc := 216) (i := 0) dX12_bookTakes_216 rfl rfl ?_
    refine hb_getR (pc := 217) (g1 := 0) dX12_bookTakes_217 fw_X12_100 cw_12 rfl (by decide) rfl (by decide) rfl ?_
    refine hb_iload (pc := 220) dX12_bookTakes_220 rfl ?_
    refine hb_aload_n (pc := 222) (i := 0) dX12_bookTakes_222 rfl rfl ?_
    refine hb_iload_n (pc := 223) (i := 1) dX12_bookTakes_223 rfl rfl ?_
    refine hb_iload (pc := 224) dX12_bookTakes_224 rfl ?_
    exact hb_callV (pc := 226) (As := [hb_i x1, hb_i x4]) (st := [hb_i x4, hb_r 12 0 29]) dX12_bookTakes_226 ml_X12_364 mf_X12_marked mi_X12_marked (ci := 12) rfl rfl (by decide) rfl rfl (Nat.le_of_ble_eq_true rfl) (Nat.le_of_ble_eq_true rfl) ht2 (fun _ _ q => q)
set_option maxRecDepth 20000 in
theorem bk_X12_bookTakes_229 {d : Nat} {w : hb_W} {Q : Option hb_V → hb_W → Prop} {x1 : Int32} {x2 : Int32} {x3 : Int32} {x4 : Int32} {xs1 : Int32} {xs2 : Int32} (h : vp_in xs1 9 ∧ (hb_R yX12_bookTakes cX12_bookTakes 5 none (d + 1) 179 [some (hb_r 12 0 0), some (hb_i x1), some (hb_i x2), some (hb_i x3), some (hb_i (x4 + (1 : Int32)))] [] (hb_sI w 12 29 0 (upd (hb_aI w 12 29 0) xs1.toNatClampNeg xs2)) Q)) : hb_R yX12_bookTakes cX12_bookTakes 5 none (d + 1) 229 [some (hb_r 12 0 0), some (hb_i x1), some (hb_i x2), some (hb_i x3), some (hb_i x4)] [hb_i xs2, hb_i xs1, hb_r 12 0 29] w Q := by
  obtain ⟨ho1, hr1⟩ := h
  refine hb_iastx (pc := 229) (f := upd (hb_aI w 12 29 0) xs1.toNatClampNeg xs2) dX12_bookTakes_229 rfl (by decide) ho1 rfl ?_
  refine hb_iinc (pc := 230) (v := x4 + (1 : Int32)) (ls1 := [some (hb_r 12 0 0), some (hb_i x1), some (hb_i x2), some (hb_i x3), some (hb_i (x4 + (1 : Int32)))]) dX12_bookTakes_230 rfl rfl (by decide) rfl ?_
  refine hb_goto (pc := 233) (tgt := 179) dX12_bookTakes_233 (by decide) ?_
  exact hr1
theorem dX12_laysBook_0 : decode cX12_laysBook 0 = .ok (.aload_n 0, 1) := by decide +kernel
theorem dX12_laysBook_1 : decode cX12_laysBook 1 = .ok (.iload_n 2, 1) := by decide +kernel
theorem dX12_laysBook_2 : decode cX12_laysBook 2 = .ok (.putfield 358, 3) := by decide +kernel
theorem dX12_laysBook_5 : decode cX12_laysBook 5 = .ok (.aload_n 0, 1) := by decide +kernel
theorem dX12_laysBook_6 : decode cX12_laysBook 6 = .ok (.iconst 0, 1) := by decide +kernel
theorem dX12_laysBook_7 : decode cX12_laysBook 7 = .ok (.putfield 361, 3) := by decide +kernel
theorem dX12_laysBook_10 : decode cX12_laysBook 10 = .ok (.aload_n 0, 1) := by decide +kernel
theorem dX12_laysBook_11 : decode cX12_laysBook 11 = .ok (.iconst 0, 1) := by decide +kernel
theorem dX12_laysBook_12 : decode cX12_laysBook 12 = .ok (.putfield 355, 3) := by decide +kernel
theorem dX12_laysBook_15 : decode cX12_laysBook 15 = .ok (.aload_n 0, 1) := by decide +kernel
theorem dX12_laysBook_16 : decode cX12_laysBook 16 = .ok (.iconst (-1), 1) := by decide +kernel
theorem dX12_laysBook_17 : decode cX12_laysBook 17 = .ok (.putfield 374, 3) := by decide +kernel
theorem dX12_laysBook_20 : decode cX12_laysBook 20 = .ok (.iconst 0, 1) := by decide +kernel
theorem dX12_laysBook_21 : decode cX12_laysBook 21 = .ok (.istore_n 3, 1) := by decide +kernel
theorem dX12_laysBook_22 : decode cX12_laysBook 22 = .ok (.iload_n 3, 1) := by decide +kernel
theorem dX12_laysBook_23 : decode cX12_laysBook 23 = .ok (.bipush 64, 2) := by decide +kernel
theorem dX12_laysBook_25 : decode cX12_laysBook 25 = .ok (.if_icmp .ge 16, 3) := by decide +kernel
theorem dX12_laysBook_28 : decode cX12_laysBook 28 = .ok (.aload_n 0, 1) := by decide +kernel
theorem dX12_laysBook_29 : decode cX12_laysBook 29 = .ok (.getfield 75, 3) := by decide +kernel
theorem dX12_laysBook_32 : decode cX12_laysBook 32 = .ok (.iload_n 3, 1) := by decide +kernel
theorem dX12_laysBook_33 : decode cX12_laysBook 33 = .ok (.iconst 0, 1) := by decide +kernel
theorem dX12_laysBook_34 : decode cX12_laysBook 34 = .ok (.iastore, 1) := by decide +kernel
theorem dX12_laysBook_35 : decode cX12_laysBook 35 = .ok (.iinc 3 1, 3) := by decide +kernel
theorem dX12_laysBook_38 : decode cX12_laysBook 38 = .ok (.goto (-16), 3) := by decide +kernel
theorem dX12_laysBook_41 : decode cX12_laysBook 41 = .ok (.iconst 0, 1) := by decide +kernel
theorem dX12_laysBook_42 : decode cX12_laysBook 42 = .ok (.istore_n 3, 1) := by decide +kernel
theorem dX12_laysBook_43 : decode cX12_laysBook 43 = .ok (.iload_n 3, 1) := by decide +kernel
theorem dX12_laysBook_44 : decode cX12_laysBook 44 = .ok (.bipush 9, 2) := by decide +kernel
theorem dX12_laysBook_46 : decode cX12_laysBook 46 = .ok (.if_icmp .ge 30, 3) := by decide +kernel
theorem dX12_laysBook_49 : decode cX12_laysBook 49 = .ok (.aload_n 0, 1) := by decide +kernel
theorem dX12_laysBook_50 : decode cX12_laysBook 50 = .ok (.getfield 87, 3) := by decide +kernel
theorem dX12_laysBook_53 : decode cX12_laysBook 53 = .ok (.iload_n 3, 1) := by decide +kernel
theorem dX12_laysBook_54 : decode cX12_laysBook 54 = .ok (.iconst 0, 1) := by decide +kernel
theorem dX12_laysBook_55 : decode cX12_laysBook 55 = .ok (.iastore, 1) := by decide +kernel
theorem dX12_laysBook_56 : decode cX12_laysBook 56 = .ok (.aload_n 0, 1) := by decide +kernel
theorem dX12_laysBook_57 : decode cX12_laysBook 57 = .ok (.getfield 97, 3) := by decide +kernel
theorem dX12_laysBook_60 : decode cX12_laysBook 60 = .ok (.iload_n 3, 1) := by decide +kernel
theorem dX12_laysBook_61 : decode cX12_laysBook 61 = .ok (.iconst 0, 1) := by decide +kernel
theorem dX12_laysBook_62 : decode cX12_laysBook 62 = .ok (.iastore, 1) := by decide +kernel
theorem dX12_laysBook_63 : decode cX12_laysBook 63 = .ok (.aload_n 0, 1) := by decide +kernel
theorem dX12_laysBook_64 : decode cX12_laysBook 64 = .ok (.getfield 100, 3) := by decide +kernel
theorem dX12_laysBook_67 : decode cX12_laysBook 67 = .ok (.iload_n 3, 1) := by decide +kernel
theorem dX12_laysBook_68 : decode cX12_laysBook 68 = .ok (.iconst (-1), 1) := by decide +kernel
theorem dX12_laysBook_69 : decode cX12_laysBook 69 = .ok (.iastore, 1) := by decide +kernel
theorem dX12_laysBook_70 : decode cX12_laysBook 70 = .ok (.iinc 3 1, 3) := by decide +kernel
theorem dX12_laysBook_73 : decode cX12_laysBook 73 = .ok (.goto (-30), 3) := by decide +kernel
theorem dX12_laysBook_76 : decode cX12_laysBook 76 = .ok (.iconst 0, 1) := by decide +kernel
theorem dX12_laysBook_77 : decode cX12_laysBook 77 = .ok (.istore_n 3, 1) := by decide +kernel
theorem dX12_laysBook_78 : decode cX12_laysBook 78 = .ok (.iload_n 3, 1) := by decide +kernel
theorem dX12_laysBook_79 : decode cX12_laysBook 79 = .ok (.bipush 27, 2) := by decide +kernel
theorem dX12_laysBook_81 : decode cX12_laysBook 81 = .ok (.if_icmp .ge 16, 3) := by decide +kernel
theorem dX12_laysBook_84 : decode cX12_laysBook 84 = .ok (.aload_n 0, 1) := by decide +kernel
theorem dX12_laysBook_85 : decode cX12_laysBook 85 = .ok (.getfield 90, 3) := by decide +kernel
theorem dX12_laysBook_88 : decode cX12_laysBook 88 = .ok (.iload_n 3, 1) := by decide +kernel
theorem dX12_laysBook_89 : decode cX12_laysBook 89 = .ok (.iconst 0, 1) := by decide +kernel
theorem dX12_laysBook_90 : decode cX12_laysBook 90 = .ok (.iastore, 1) := by decide +kernel
theorem dX12_laysBook_91 : decode cX12_laysBook 91 = .ok (.iinc 3 1, 3) := by decide +kernel
theorem dX12_laysBook_94 : decode cX12_laysBook 94 = .ok (.goto (-16), 3) := by decide +kernel
theorem dX12_laysBook_97 : decode cX12_laysBook 97 = .ok (.iconst 0, 1) := by decide +kernel
theorem dX12_laysBook_98 : decode cX12_laysBook 98 = .ok (.istore_n 3, 1) := by decide +kernel
theorem dX12_laysBook_99 : decode cX12_laysBook 99 = .ok (.iload_n 3, 1) := by decide +kernel
theorem dX12_laysBook_100 : decode cX12_laysBook 100 = .ok (.bipush 72, 2) := by decide +kernel
theorem dX12_laysBook_102 : decode cX12_laysBook 102 = .ok (.if_icmp .ge 16, 3) := by decide +kernel
theorem dX12_laysBook_105 : decode cX12_laysBook 105 = .ok (.aload_n 0, 1) := by decide +kernel
theorem dX12_laysBook_106 : decode cX12_laysBook 106 = .ok (.getfield 93, 3) := by decide +kernel
theorem dX12_laysBook_109 : decode cX12_laysBook 109 = .ok (.iload_n 3, 1) := by decide +kernel
theorem dX12_laysBook_110 : decode cX12_laysBook 110 = .ok (.iconst 0, 1) := by decide +kernel
theorem dX12_laysBook_111 : decode cX12_laysBook 111 = .ok (.bastore, 1) := by decide +kernel
theorem dX12_laysBook_112 : decode cX12_laysBook 112 = .ok (.iinc 3 1, 3) := by decide +kernel
theorem dX12_laysBook_115 : decode cX12_laysBook 115 = .ok (.goto (-16), 3) := by decide +kernel
theorem dX12_laysBook_118 : decode cX12_laysBook 118 = .ok (.iconst 0, 1) := by decide +kernel
theorem dX12_laysBook_119 : decode cX12_laysBook 119 = .ok (.istore_n 3, 1) := by decide +kernel
theorem dX12_laysBook_120 : decode cX12_laysBook 120 = .ok (.iload_n 3, 1) := by decide +kernel
theorem dX12_laysBook_121 : decode cX12_laysBook 121 = .ok (.bipush 99, 2) := by decide +kernel
theorem dX12_laysBook_123 : decode cX12_laysBook 123 = .ok (.if_icmp .gt 16, 3) := by decide +kernel
theorem dX12_laysBook_126 : decode cX12_laysBook 126 = .ok (.aload_n 0, 1) := by decide +kernel
theorem dX12_laysBook_127 : decode cX12_laysBook 127 = .ok (.getfield 103, 3) := by decide +kernel
theorem dX12_laysBook_130 : decode cX12_laysBook 130 = .ok (.iload_n 3, 1) := by decide +kernel
theorem dX12_laysBook_131 : decode cX12_laysBook 131 = .ok (.iconst 0, 1) := by decide +kernel
theorem dX12_laysBook_132 : decode cX12_laysBook 132 = .ok (.iastore, 1) := by decide +kernel
theorem dX12_laysBook_133 : decode cX12_laysBook 133 = .ok (.iinc 3 1, 3) := by decide +kernel
theorem dX12_laysBook_136 : decode cX12_laysBook 136 = .ok (.goto (-16), 3) := by decide +kernel
theorem dX12_laysBook_139 : decode cX12_laysBook 139 = .ok (.iconst 0, 1) := by decide +kernel
theorem dX12_laysBook_140 : decode cX12_laysBook 140 = .ok (.istore_n 3, 1) := by decide +kernel
theorem dX12_laysBook_141 : decode cX12_laysBook 141 = .ok (.iload_n 3, 1) := by decide +kernel
theorem dX12_laysBook_142 : decode cX12_laysBook 142 = .ok (.aload_n 0, 1) := by decide +kernel
theorem dX12_laysBook_143 : decode cX12_laysBook 143 = .ok (.getfield 66, 3) := by decide +kernel
theorem dX12_laysBook_146 : decode cX12_laysBook 146 = .ok (.iconst 1, 1) := by decide +kernel
theorem dX12_laysBook_147 : decode cX12_laysBook 147 = .ok (.iaload, 1) := by decide +kernel
theorem dX12_laysBook_148 : decode cX12_laysBook 148 = .ok (.if_icmp .ge 37, 3) := by decide +kernel
theorem dX12_laysBook_151 : decode cX12_laysBook 151 = .ok (.aload_n 0, 1) := by decide +kernel
theorem dX12_laysBook_152 : decode cX12_laysBook 152 = .ok (.iload_n 3, 1) := by decide +kernel
theorem dX12_laysBook_153 : decode cX12_laysBook 153 = .ok (.iload_n 1, 1) := by decide +kernel
theorem dX12_laysBook_154 : decode cX12_laysBook 154 = .ok (.invokevirtual 380, 3) := by decide +kernel
theorem dX12_laysBook_157 : decode cX12_laysBook 157 = .ok (.ifCond .eq 22, 3) := by decide +kernel
theorem dX12_laysBook_160 : decode cX12_laysBook 160 = .ok (.aload_n 0, 1) := by decide +kernel
theorem dX12_laysBook_161 : decode cX12_laysBook 161 = .ok (.aload_n 0, 1) := by decide +kernel
theorem dX12_laysBook_162 : decode cX12_laysBook 162 = .ok (.iload_n 3, 1) := by decide +kernel
theorem dX12_laysBook_163 : decode cX12_laysBook 163 = .ok (.invokevirtual 384, 3) := by decide +kernel
theorem dX12_laysBook_166 : decode cX12_laysBook 166 = .ok (.aload_n 0, 1) := by decide +kernel
theorem dX12_laysBook_167 : decode cX12_laysBook 167 = .ok (.getfield 69, 3) := by decide +kernel
theorem dX12_laysBook_170 : decode cX12_laysBook 170 = .ok (.iconst 3, 1) := by decide +kernel
theorem dX12_laysBook_171 : decode cX12_laysBook 171 = .ok (.iload_n 3, 1) := by decide +kernel
theorem dX12_laysBook_172 : decode cX12_laysBook 172 = .ok (.imul, 1) := by decide +kernel
theorem dX12_laysBook_173 : decode cX12_laysBook 173 = .ok (.iconst 1, 1) := by decide +kernel
theorem dX12_laysBook_174 : decode cX12_laysBook 174 = .ok (.iadd, 1) := by decide +kernel
theorem dX12_laysBook_175 : decode cX12_laysBook 175 = .ok (.iaload, 1) := by decide +kernel
theorem dX12_laysBook_176 : decode cX12_laysBook 176 = .ok (.invokevirtual 387, 3) := by decide +kernel
theorem dX12_laysBook_179 : decode cX12_laysBook 179 = .ok (.iinc 3 1, 3) := by decide +kernel
theorem dX12_laysBook_182 : decode cX12_laysBook 182 = .ok (.goto (-41), 3) := by decide +kernel
theorem dX12_laysBook_185 : decode cX12_laysBook 185 = .ok (.return_, 1) := by decide +kernel
set_option maxRecDepth 20000 in
theorem bk_X12_laysBook_0 {d : Nat} {w : hb_W} {Q : Option hb_V → hb_W → Prop} {x1 : Int32} {x2 : Int32} (h : hb_R yX12_laysBook cX12_laysBook 4 none (d + 1) 22 [some (hb_r 12 0 0), some (hb_i x1), some (hb_i x2), some (hb_i (0 : Int32))] [] (hb_pI (hb_pI (hb_pI (hb_pI w 12 39 0 x2) 12 40 0 (0 : Int32)) 12 44 0 (0 : Int32)) 12 45 0 (-1 : Int32)) Q) : hb_R yX12_laysBook cX12_laysBook 4 none (d + 1) 0 [some (hb_r 12 0 0), some (hb_i x1), some (hb_i x2), none] [] w Q := by
  refine hb_aload_n (pc := 0) (i := 0) dX12_laysBook_0 rfl rfl ?_
  refine hb_iload_n (pc := 1) (i := 2) dX12_laysBook_1 rfl rfl ?_
  refine hb_putI (pc := 2) dX12_laysBook_2 fw_X12_358 cw_12 pw_12_39 rfl (by decide) rfl rfl rfl ?_
  refine hb_aload_n (pc := 5) (i := 0) dX12_laysBook_5 rfl rfl ?_
  refine hb_iconst (pc := 6) (v := 0) dX12_laysBook_6 (by decide) ?_
  refine hb_putI (pc := 7) dX12_laysBook_7 fw_X12_361 cw_12 pw_12_40 rfl (by decide) rfl rfl rfl ?_
  refine hb_aload_n (pc := 10) (i := 0) dX12_laysBook_10 rfl rfl ?_
  refine hb_iconst (pc := 11) (v := 0) dX12_laysBook_11 (by decide) ?_
  refine hb_putI (pc := 12) dX12_laysBook_12 fw_X12_355 cw_12 pw_12_44 rfl (by decide) rfl rfl rfl ?_
  refine hb_aload_n (pc := 15) (i := 0) dX12_laysBook_15 rfl rfl ?_
  refine hb_iconst (pc := 16) (v := -1) dX12_laysBook_16 (by decide) ?_
  refine hb_putI (pc := 17) dX12_laysBook_17 fw_X12_374 cw_12 pw_12_45 rfl (by decide) rfl rfl rfl ?_
  refine hb_iconst (pc := 20) (v := 0) dX12_laysBook_20 (by decide) ?_
  refine hb_istore_n (pc := 21) (i := 3) (ls1 := [some (hb_r 12 0 0), some (hb_i x1), some (hb_i x2), some (hb_i (0 : Int32))]) dX12_laysBook_21 rfl (by decide) rfl ?_
  exact h
set_option maxRecDepth 20000 in
theorem bk_X12_laysBook_22 {d : Nat} {w : hb_W} {Q : Option hb_V → hb_W → Prop} {x1 : Int32} {x2 : Int32} {x3 : Int32} (h : (((64 : Int32) ≤ x3) → hb_R yX12_laysBook cX12_laysBook 4 none (d + 1) 43 [some (hb_r 12 0 0), some (hb_i x1), some (hb_i x2), some (hb_i (0 : Int32))] [] w Q) ∧ ((¬ (64 : Int32) ≤ x3) → vp_in x3 64 ∧ (hb_R yX12_laysBook cX12_laysBook 4 none (d + 1) 22 [some (hb_r 12 0 0), some (hb_i x1), some (hb_i x2), some (hb_i (x3 + (1 : Int32)))] [] (hb_sI w 12 21 0 (upd (hb_aI w 12 21 0) x3.toNatClampNeg (0 : Int32))) Q))) : hb_R yX12_laysBook cX12_laysBook 4 none (d + 1) 22 [some (hb_r 12 0 0), some (hb_i x1), some (hb_i x2), some (hb_i x3)] [] w Q := by
  refine hb_iload_n (pc := 22) (i := 3) dX12_laysBook_22 rfl rfl ?_
  refine hb_bipush (pc := 23) (v := 64) dX12_laysBook_23 (by decide) ?_
  refine hb_icmp_ge (pc := 25) (tgt := 41) dX12_laysBook_25 (by decide) (fun c1 => ?_) (fun c1 => ?_)
  · have ht1 := h.1 c1
    refine hb_iconst (pc := 41) (v := 0) dX12_laysBook_41 (by decide) ?_
    refine hb_istore_n (pc := 42) (i := 3) (ls1 := [some (hb_r 12 0 0), some (hb_i x1), some (hb_i x2), some (hb_i (0 : Int32))]) dX12_laysBook_42 rfl (by decide) rfl ?_
    exact ht1
  · have ht1 := h.2 c1
    refine hb_aload_n (pc := 28) (i := 0) dX12_laysBook_28 rfl rfl ?_
    refine hb_getR (pc := 29) (g1 := 0) dX12_laysBook_29 fw_X12_75 cw_12 rfl (by decide) rfl (by decide) rfl ?_
    refine hb_iload_n (pc := 32) (i := 3) dX12_laysBook_32 rfl rfl ?_
    refine hb_iconst (pc := 33) (v := 0) dX12_laysBook_33 (by decide) ?_
    obtain ⟨ho2, hr2⟩ := ht1
    refine hb_iastx (pc := 34) (f := upd (hb_aI w 12 21 0) x3.toNatClampNeg (0 : Int32)) dX12_laysBook_34 rfl (by decide) ho2 rfl ?_
    refine hb_iinc (pc := 35) (v := x3 + (1 : Int32)) (ls1 := [some (hb_r 12 0 0), some (hb_i x1), some (hb_i x2), some (hb_i (x3 + (1 : Int32)))]) dX12_laysBook_35 rfl rfl (by decide) rfl ?_
    refine hb_goto (pc := 38) (tgt := 22) dX12_laysBook_38 (by decide) ?_
    exact hr2
set_option maxRecDepth 20000 in
theorem bk_X12_laysBook_43 {d : Nat} {w : hb_W} {Q : Option hb_V → hb_W → Prop} {x1 : Int32} {x2 : Int32} {x3 : Int32} (h : (((9 : Int32) ≤ x3) → hb_R yX12_laysBook cX12_laysBook 4 none (d + 1) 78 [some (hb_r 12 0 0), some (hb_i x1), some (hb_i x2), some (hb_i (0 : Int32))] [] w Q) ∧ ((¬ (9 : Int32) ≤ x3) → vp_in x3 9 ∧ (vp_in x3 9 ∧ (vp_in x3 9 ∧ (hb_R yX12_laysBook cX12_laysBook 4 none (d + 1) 43 [some (hb_r 12 0 0), some (hb_i x1), some (hb_i x2), some (hb_i (x3 + (1 : Int32)))] [] (hb_sI (hb_sI (hb_sI w 12 25 0 (upd (hb_aI w 12 25 0) x3.toNatClampNeg (0 : Int32))) 12 28 0 (upd (hb_aI w 12 28 0) x3.toNatClampNeg (0 : Int32))) 12 29 0 (upd (hb_aI w 12 29 0) x3.toNatClampNeg (-1 : Int32))) Q))))) : hb_R yX12_laysBook cX12_laysBook 4 none (d + 1) 43 [some (hb_r 12 0 0), some (hb_i x1), some (hb_i x2), some (hb_i x3)] [] w Q := by
  refine hb_iload_n (pc := 43) (i := 3) dX12_laysBook_43 rfl rfl ?_
  refine hb_bipush (pc := 44) (v := 9) dX12_laysBook_44 (by decide) ?_
  refine hb_icmp_ge (pc := 46) (tgt := 76) dX12_laysBook_46 (by decide) (fun c1 => ?_) (fun c1 => ?_)
  · have ht1 := h.1 c1
    refine hb_iconst (pc := 76) (v := 0) dX12_laysBook_76 (by decide) ?_
    refine hb_istore_n (pc := 77) (i := 3) (ls1 := [some (hb_r 12 0 0), some (hb_i x1), some (hb_i x2), some (hb_i (0 : Int32))]) dX12_laysBook_77 rfl (by decide) rfl ?_
    exact ht1
  · have ht1 := h.2 c1
    refine hb_aload_n (pc := 49) (i := 0) dX12_laysBook_49 rfl rfl ?_
    refine hb_getR (pc := 50) (g1 := 0) dX12_laysBook_50 fw_X12_87 cw_12 rfl (by decide) rfl (by decide) rfl ?_
    refine hb_iload_n (pc := 53) (i := 3) dX12_laysBook_53 rfl rfl ?_
    refine hb_iconst (pc := 54) (v := 0) dX12_laysBook_54 (by decide) ?_
    obtain ⟨ho2, hr2⟩ := ht1
    refine hb_iastx (pc := 55) (f := upd (hb_aI w 12 25 0) x3.toNatClampNeg (0 : Int32)) dX12_laysBook_55 rfl (by decide) ho2 rfl ?_
    refine hb_aload_n (pc := 56) (i := 0) dX12_laysBook_56 rfl rfl ?_
    refine hb_getR (pc := 57) (g1 := 0) dX12_laysBook_57 fw_X12_97 cw_12 rfl (by decide) rfl (by decide) rfl ?_
    refine hb_iload_n (pc := 60) (i := 3) dX12_laysBook_60 rfl rfl ?_
    refine hb_iconst (pc := 61) (v := 0) dX12_laysBook_61 (by decide) ?_
    obtain ⟨ho3, hr3⟩ := hr2
    refine hb_iastx (pc := 62) (f := upd (hb_aI w 12 28 0) x3.toNatClampNeg (0 : Int32)) dX12_laysBook_62 rfl (by decide) ho3 rfl ?_
    refine hb_aload_n (pc := 63) (i := 0) dX12_laysBook_63 rfl rfl ?_
    refine hb_getR (pc := 64) (g1 := 0) dX12_laysBook_64 fw_X12_100 cw_12 rfl (by decide) rfl (by decide) rfl ?_
    refine hb_iload_n (pc := 67) (i := 3) dX12_laysBook_67 rfl rfl ?_
    refine hb_iconst (pc := 68) (v := -1) dX12_laysBook_68 (by decide) ?_
    obtain ⟨ho4, hr4⟩ := hr3
    refine hb_iastx (pc := 69) (f := upd (hb_aI w 12 29 0) x3.toNatClampNeg (-1 : Int32)) dX12_laysBook_69 rfl (by decide) ho4 rfl ?_
    refine hb_iinc (pc := 70) (v := x3 + (1 : Int32)) (ls1 := [some (hb_r 12 0 0), some (hb_i x1), some (hb_i x2), some (hb_i (x3 + (1 : Int32)))]) dX12_laysBook_70 rfl rfl (by decide) rfl ?_
    refine hb_goto (pc := 73) (tgt := 43) dX12_laysBook_73 (by decide) ?_
    exact hr4
set_option maxRecDepth 20000 in
theorem bk_X12_laysBook_78 {d : Nat} {w : hb_W} {Q : Option hb_V → hb_W → Prop} {x1 : Int32} {x2 : Int32} {x3 : Int32} (h : (((27 : Int32) ≤ x3) → hb_R yX12_laysBook cX12_laysBook 4 none (d + 1) 99 [some (hb_r 12 0 0), some (hb_i x1), some (hb_i x2), some (hb_i (0 : Int32))] [] w Q) ∧ ((¬ (27 : Int32) ≤ x3) → vp_in x3 27 ∧ (hb_R yX12_laysBook cX12_laysBook 4 none (d + 1) 78 [some (hb_r 12 0 0), some (hb_i x1), some (hb_i x2), some (hb_i (x3 + (1 : Int32)))] [] (hb_sI w 12 26 0 (upd (hb_aI w 12 26 0) x3.toNatClampNeg (0 : Int32))) Q))) : hb_R yX12_laysBook cX12_laysBook 4 none (d + 1) 78 [some (hb_r 12 0 0), some (hb_i x1), some (hb_i x2), some (hb_i x3)] [] w Q := by
  refine hb_iload_n (pc := 78) (i := 3) dX12_laysBook_78 rfl rfl ?_
  refine hb_bipush (pc := 79) (v := 27) dX12_laysBook_79 (by decide) ?_
  refine hb_icmp_ge (pc := 81) (tgt := 97) dX12_laysBook_81 (by decide) (fun c1 => ?_) (fun c1 => ?_)
  · have ht1 := h.1 c1
    refine hb_iconst (pc := 97) (v := 0) dX12_laysBook_97 (by decide) ?_
    refine hb_istore_n (pc := 98) (i := 3) (ls1 := [some (hb_r 12 0 0), some (hb_i x1), some (hb_i x2), some (hb_i (0 : Int32))]) dX12_laysBook_98 rfl (by decide) rfl ?_
    exact ht1
  · have ht1 := h.2 c1
    refine hb_aload_n (pc := 84) (i := 0) dX12_laysBook_84 rfl rfl ?_
    refine hb_getR (pc := 85) (g1 := 0) dX12_laysBook_85 fw_X12_90 cw_12 rfl (by decide) rfl (by decide) rfl ?_
    refine hb_iload_n (pc := 88) (i := 3) dX12_laysBook_88 rfl rfl ?_
    refine hb_iconst (pc := 89) (v := 0) dX12_laysBook_89 (by decide) ?_
    obtain ⟨ho2, hr2⟩ := ht1
    refine hb_iastx (pc := 90) (f := upd (hb_aI w 12 26 0) x3.toNatClampNeg (0 : Int32)) dX12_laysBook_90 rfl (by decide) ho2 rfl ?_
    refine hb_iinc (pc := 91) (v := x3 + (1 : Int32)) (ls1 := [some (hb_r 12 0 0), some (hb_i x1), some (hb_i x2), some (hb_i (x3 + (1 : Int32)))]) dX12_laysBook_91 rfl rfl (by decide) rfl ?_
    refine hb_goto (pc := 94) (tgt := 78) dX12_laysBook_94 (by decide) ?_
    exact hr2
set_option maxRecDepth 20000 in
theorem bk_X12_laysBook_99 {d : Nat} {w : hb_W} {Q : Option hb_V → hb_W → Prop} {x1 : Int32} {x2 : Int32} {x3 : Int32} (h : (((72 : Int32) ≤ x3) → hb_R yX12_laysBook cX12_laysBook 4 none (d + 1) 120 [some (hb_r 12 0 0), some (hb_i x1), some (hb_i x2), some (hb_i (0 : Int32))] [] w Q) ∧ ((¬ (72 : Int32) ≤ x3) → vp_in x3 72 ∧ (hb_R yX12_laysBook cX12_laysBook 4 none (d + 1) 99 [some (hb_r 12 0 0), some (hb_i x1), some (hb_i x2), some (hb_i (x3 + (1 : Int32)))] [] (hb_sI w 12 27 0 (upd (hb_aI w 12 27 0) x3.toNatClampNeg (vp_nar .boolean (0 : Int32)))) Q))) : hb_R yX12_laysBook cX12_laysBook 4 none (d + 1) 99 [some (hb_r 12 0 0), some (hb_i x1), some (hb_i x2), some (hb_i x3)] [] w Q := by
  refine hb_iload_n (pc := 99) (i := 3) dX12_laysBook_99 rfl rfl ?_
  refine hb_bipush (pc := 100) (v := 72) dX12_laysBook_100 (by decide) ?_
  refine hb_icmp_ge (pc := 102) (tgt := 118) dX12_laysBook_102 (by decide) (fun c1 => ?_) (fun c1 => ?_)
  · have ht1 := h.1 c1
    refine hb_iconst (pc := 118) (v := 0) dX12_laysBook_118 (by decide) ?_
    refine hb_istore_n (pc := 119) (i := 3) (ls1 := [some (hb_r 12 0 0), some (hb_i x1), some (hb_i x2), some (hb_i (0 : Int32))]) dX12_laysBook_119 rfl (by decide) rfl ?_
    exact ht1
  · have ht1 := h.2 c1
    refine hb_aload_n (pc := 105) (i := 0) dX12_laysBook_105 rfl rfl ?_
    refine hb_getR (pc := 106) (g1 := 0) dX12_laysBook_106 fw_X12_93 cw_12 rfl (by decide) rfl (by decide) rfl ?_
    refine hb_iload_n (pc := 109) (i := 3) dX12_laysBook_109 rfl rfl ?_
    refine hb_iconst (pc := 110) (v := 0) dX12_laysBook_110 (by decide) ?_
    obtain ⟨ho2, hr2⟩ := ht1
    refine hb_zastx (pc := 111) (f := upd (hb_aI w 12 27 0) x3.toNatClampNeg (vp_nar .boolean (0 : Int32))) dX12_laysBook_111 rfl (by decide) ho2 rfl ?_
    refine hb_iinc (pc := 112) (v := x3 + (1 : Int32)) (ls1 := [some (hb_r 12 0 0), some (hb_i x1), some (hb_i x2), some (hb_i (x3 + (1 : Int32)))]) dX12_laysBook_112 rfl rfl (by decide) rfl ?_
    refine hb_goto (pc := 115) (tgt := 99) dX12_laysBook_115 (by decide) ?_
    exact hr2
set_option maxRecDepth 20000 in
theorem bk_X12_laysBook_120 {d : Nat} {w : hb_W} {Q : Option hb_V → hb_W → Prop} {x1 : Int32} {x2 : Int32} {x3 : Int32} (h : (((99 : Int32) < x3) → hb_R yX12_laysBook cX12_laysBook 4 none (d + 1) 141 [some (hb_r 12 0 0), some (hb_i x1), some (hb_i x2), some (hb_i (0 : Int32))] [] w Q) ∧ ((¬ (99 : Int32) < x3) → vp_in x3 100 ∧ (hb_R yX12_laysBook cX12_laysBook 4 none (d + 1) 120 [some (hb_r 12 0 0), some (hb_i x1), some (hb_i x2), some (hb_i (x3 + (1 : Int32)))] [] (hb_sI w 12 30 0 (upd (hb_aI w 12 30 0) x3.toNatClampNeg (0 : Int32))) Q))) : hb_R yX12_laysBook cX12_laysBook 4 none (d + 1) 120 [some (hb_r 12 0 0), some (hb_i x1), some (hb_i x2), some (hb_i x3)] [] w Q := by
  refine hb_iload_n (pc := 120) (i := 3) dX12_laysBook_120 rfl rfl ?_
  refine hb_bipush (pc := 121) (v := 99) dX12_laysBook_121 (by decide) ?_
  refine hb_icmp_gt (pc := 123) (tgt := 139) dX12_laysBook_123 (by decide) (fun c1 => ?_) (fun c1 => ?_)
  · have ht1 := h.1 c1
    refine hb_iconst (pc := 139) (v := 0) dX12_laysBook_139 (by decide) ?_
    refine hb_istore_n (pc := 140) (i := 3) (ls1 := [some (hb_r 12 0 0), some (hb_i x1), some (hb_i x2), some (hb_i (0 : Int32))]) dX12_laysBook_140 rfl (by decide) rfl ?_
    exact ht1
  · have ht1 := h.2 c1
    refine hb_aload_n (pc := 126) (i := 0) dX12_laysBook_126 rfl rfl ?_
    refine hb_getR (pc := 127) (g1 := 0) dX12_laysBook_127 fw_X12_103 cw_12 rfl (by decide) rfl (by decide) rfl ?_
    refine hb_iload_n (pc := 130) (i := 3) dX12_laysBook_130 rfl rfl ?_
    refine hb_iconst (pc := 131) (v := 0) dX12_laysBook_131 (by decide) ?_
    obtain ⟨ho2, hr2⟩ := ht1
    refine hb_iastx (pc := 132) (f := upd (hb_aI w 12 30 0) x3.toNatClampNeg (0 : Int32)) dX12_laysBook_132 rfl (by decide) ho2 rfl ?_
    refine hb_iinc (pc := 133) (v := x3 + (1 : Int32)) (ls1 := [some (hb_r 12 0 0), some (hb_i x1), some (hb_i x2), some (hb_i (x3 + (1 : Int32)))]) dX12_laysBook_133 rfl rfl (by decide) rfl ?_
    refine hb_goto (pc := 136) (tgt := 120) dX12_laysBook_136 (by decide) ?_
    exact hr2
set_option maxRecDepth 20000 in
theorem bk_X12_laysBook_141 {d : Nat} {w : hb_W} {Q : Option hb_V → hb_W → Prop} {x1 : Int32} {x2 : Int32} {x3 : Int32} (h : (((hb_aI w 12 18 0 (1 : Int32).toNatClampNeg) ≤ x3) → Q none w) ∧ ((¬ (hb_aI w 12 18 0 (1 : Int32).toNatClampNeg) ≤ x3) → hb_O yX12_isOf cX12_isOf 3 (some .boolean) d [hb_r 12 0 0, hb_i x3, hb_i x1] w (fun rv w1 => hb_R yX12_laysBook cX12_laysBook 4 none (d + 1) 157 [some (hb_r 12 0 0), some (hb_i x1), some (hb_i x2), some (hb_i x3)] (rv.toList ++ []) w1 Q))) : hb_R yX12_laysBook cX12_laysBook 4 none (d + 1) 141 [some (hb_r 12 0 0), some (hb_i x1), some (hb_i x2), some (hb_i x3)] [] w Q := by
  refine hb_iload_n (pc := 141) (i := 3) dX12_laysBook_141 rfl rfl ?_
  refine hb_aload_n (pc := 142) (i := 0) dX12_laysBook_142 rfl rfl ?_
  refine hb_getR (pc := 143) (g1 := 0) dX12_laysBook_143 fw_X12_66 cw_12 rfl (by decide) rfl (by decide) rfl ?_
  refine hb_iconst (pc := 146) (v := 1) dX12_laysBook_146 (by decide) ?_
  refine hb_ialdx (pc := 147) (x := hb_aI w 12 18 0 (1 : Int32).toNatClampNeg) dX12_laysBook_147 (n := 11) rfl (by decide) (by unfold vp_in; decide) rfl ?_
  refine hb_icmp_ge (pc := 148) (tgt := 185) dX12_laysBook_148 (by decide) (fun c1 => ?_) (fun c1 => ?_)
  · have ht1 := h.1 c1
    exact hb_vret (pc := 185) dX12_laysBook_185 rfl ht1
  · have ht1 := h.2 c1
    refine hb_aload_n (pc := 151) (i := 0) dX12_laysBook_151 rfl rfl ?_
    refine hb_iload_n (pc := 152) (i := 3) dX12_laysBook_152 rfl rfl ?_
    refine hb_iload_n (pc := 153) (i := 1) dX12_laysBook_153 rfl rfl ?_
    exact hb_callV (pc := 154) (As := [hb_i x3, hb_i x1]) (st := []) dX12_laysBook_154 ml_X12_380 mf_X12_isOf mi_X12_isOf (ci := 12) rfl rfl (by decide) rfl rfl (Nat.le_of_ble_eq_true rfl) (Nat.le_of_ble_eq_true rfl) ht1 (fun _ _ q => q)
set_option maxRecDepth 20000 in
theorem bk_X12_laysBook_157 {d : Nat} {w : hb_W} {Q : Option hb_V → hb_W → Prop} {x1 : Int32} {x2 : Int32} {x3 : Int32} {xs0 : Int32} (h : ((xs0 = 0) → hb_R yX12_laysBook cX12_laysBook 4 none (d + 1) 179 [some (hb_r 12 0 0), some (hb_i x1), some (hb_i x2), some (hb_i x3)] [] w Q) ∧ ((¬ xs0 = 0) → hb_O yX12_hoodOf cX12_hoodOf 2 (some .int) d [hb_r 12 0 0, hb_i x3] w (fun rv w1 => hb_R yX12_laysBook cX12_laysBook 4 none (d + 1) 166 [some (hb_r 12 0 0), some (hb_i x1), some (hb_i x2), some (hb_i x3)] (rv.toList ++ [hb_r 12 0 0]) w1 Q))) : hb_R yX12_laysBook cX12_laysBook 4 none (d + 1) 157 [some (hb_r 12 0 0), some (hb_i x1), some (hb_i x2), some (hb_i x3)] [hb_i xs0] w Q := by
  refine hb_if_eq (pc := 157) (tgt := 179) dX12_laysBook_157 (by decide) (fun c1 => ?_) (fun c1 => ?_)
  · have ht1 := h.1 c1
    exact ht1
  · have ht1 := h.2 c1
    refine hb_aload_n (pc := 160) (i := 0) dX12_laysBook_160 rfl rfl ?_
    refine hb_aload_n (pc := 161) (i := 0) dX12_laysBook_161 rfl rfl ?_
    refine hb_iload_n (pc := 162) (i := 3) dX12_laysBook_162 rfl rfl ?_
    exact hb_callV (pc := 163) (As := [hb_i x3]) (st := [hb_r 12 0 0]) dX12_laysBook_163 ml_X12_384 mf_X12_hoodOf mi_X12_hoodOf (ci := 12) rfl rfl (by decide) rfl rfl (Nat.le_of_ble_eq_true rfl) (Nat.le_of_ble_eq_true rfl) ht1 (fun _ _ q => q)
set_option maxRecDepth 20000 in
theorem bk_X12_laysBook_166 {d : Nat} {w : hb_W} {Q : Option hb_V → hb_W → Prop} {x1 : Int32} {x2 : Int32} {x3 : Int32} {xs1 : Int32} (h : vp_in (((3 : Int32) * x3) + (1 : Int32)) 1203 ∧ (hb_O yX12_bookTakes cX12_bookTakes 5 none d [hb_r 12 0 0, hb_i xs1, hb_i (hb_aI w 12 19 0 (((3 : Int32) * x3) + (1 : Int32)).toNatClampNeg)] w (fun rv w1 => hb_R yX12_laysBook cX12_laysBook 4 none (d + 1) 179 [some (hb_r 12 0 0), some (hb_i x1), some (hb_i x2), some (hb_i x3)] (rv.toList ++ []) w1 Q))) : hb_R yX12_laysBook cX12_laysBook 4 none (d + 1) 166 [some (hb_r 12 0 0), some (hb_i x1), some (hb_i x2), some (hb_i x3)] [hb_i xs1, hb_r 12 0 0] w Q := by
  refine hb_aload_n (pc := 166) (i := 0) dX12_laysBook_166 rfl rfl ?_
  refine hb_getR (pc := 167) (g1 := 0) dX12_laysBook_167 fw_X12_69 cw_12 rfl (by decide) rfl (by decide) rfl ?_
  refine hb_iconst (pc := 170) (v := 3) dX12_laysBook_170 (by decide) ?_
  refine hb_iload_n (pc := 171) (i := 3) dX12_laysBook_171 rfl rfl ?_
  refine hb_imul (pc := 172) dX12_laysBook_172 ?_
  refine hb_iconst (pc := 173) (v := 1) dX12_laysBook_173 (by decide) ?_
  refine hb_iadd (pc := 174) dX12_laysBook_174 ?_
  obtain ⟨ho1, hr1⟩ := h
  refine hb_ialdx (pc := 175) (x := hb_aI w 12 19 0 (((3 : Int32) * x3) + (1 : Int32)).toNatClampNeg) dX12_laysBook_175 rfl (by decide) ho1 rfl ?_
  exact hb_callV (pc := 176) (As := [hb_i xs1, hb_i (hb_aI w 12 19 0 (((3 : Int32) * x3) + (1 : Int32)).toNatClampNeg)]) (st := []) dX12_laysBook_176 ml_X12_387 mf_X12_bookTakes mi_X12_bookTakes (ci := 12) rfl rfl (by decide) rfl rfl (Nat.le_of_ble_eq_true rfl) (Nat.le_of_ble_eq_true rfl) hr1 (fun _ _ q => q)
set_option maxRecDepth 20000 in
theorem bk_X12_laysBook_179 {d : Nat} {w : hb_W} {Q : Option hb_V → hb_W → Prop} {x1 : Int32} {x2 : Int32} {x3 : Int32} (h : hb_R yX12_laysBook cX12_laysBook 4 none (d + 1) 141 [some (hb_r 12 0 0), some (hb_i x1), some (hb_i x2), some (hb_i (x3 + (1 : Int32)))] [] w Q) : hb_R yX12_laysBook cX12_laysBook 4 none (d + 1) 179 [some (hb_r 12 0 0), some (hb_i x1), some (hb_i x2), some (hb_i x3)] [] w Q := by
  refine hb_iinc (pc := 179) (v := x3 + (1 : Int32)) (ls1 := [some (hb_r 12 0 0), some (hb_i x1), some (hb_i x2), some (hb_i (x3 + (1 : Int32)))]) dX12_laysBook_179 rfl rfl (by decide) rfl ?_
  refine hb_goto (pc := 182) (tgt := 141) dX12_laysBook_182 (by decide) ?_
  exact h
theorem dX12_lays_0 : decode cX12_lays 0 = .ok (.aload_n 0, 1) := by decide +kernel
theorem dX12_lays_1 : decode cX12_lays 1 = .ok (.aload_n 0, 1) := by decide +kernel
theorem dX12_lays_2 : decode cX12_lays 2 = .ok (.getfield 66, 3) := by decide +kernel
theorem dX12_lays_5 : decode cX12_lays 5 = .ok (.iconst 0, 1) := by decide +kernel
theorem dX12_lays_6 : decode cX12_lays 6 = .ok (.iaload, 1) := by decide +kernel
theorem dX12_lays_7 : decode cX12_lays 7 = .ok (.invokevirtual 390, 3) := by decide +kernel
theorem dX12_lays_10 : decode cX12_lays 10 = .ok (.aload_n 0, 1) := by decide +kernel
theorem dX12_lays_11 : decode cX12_lays 11 = .ok (.iload_n 1, 1) := by decide +kernel
theorem dX12_lays_12 : decode cX12_lays 12 = .ok (.aload_n 0, 1) := by decide +kernel
theorem dX12_lays_13 : decode cX12_lays 13 = .ok (.getfield 51, 3) := by decide +kernel
theorem dX12_lays_16 : decode cX12_lays 16 = .ok (.iconst 2, 1) := by decide +kernel
theorem dX12_lays_17 : decode cX12_lays 17 = .ok (.iaload, 1) := by decide +kernel
theorem dX12_lays_18 : decode cX12_lays 18 = .ok (.invokevirtual 393, 3) := by decide +kernel
theorem dX12_lays_21 : decode cX12_lays 21 = .ok (.return_, 1) := by decide +kernel
set_option maxRecDepth 20000 in
theorem bk_X12_lays_0 {d : Nat} {w : hb_W} {Q : Option hb_V → hb_W → Prop} {x1 : Int32} (h : hb_O yX12_laysMarks cX12_laysMarks 4 none d [hb_r 12 0 0, hb_i (hb_aI w 12 18 0 (0 : Int32).toNatClampNeg)] w (fun rv w1 => hb_R yX12_lays cX12_lays 2 none (d + 1) 10 [some (hb_r 12 0 0), some (hb_i x1)] (rv.toList ++ []) w1 Q)) : hb_R yX12_lays cX12_lays 2 none (d + 1) 0 [some (hb_r 12 0 0), some (hb_i x1)] [] w Q := by
  refine hb_aload_n (pc := 0) (i := 0) dX12_lays_0 rfl rfl ?_
  refine hb_aload_n (pc := 1) (i := 0) dX12_lays_1 rfl rfl ?_
  refine hb_getR (pc := 2) (g1 := 0) dX12_lays_2 fw_X12_66 cw_12 rfl (by decide) rfl (by decide) rfl ?_
  refine hb_iconst (pc := 5) (v := 0) dX12_lays_5 (by decide) ?_
  refine hb_ialdx (pc := 6) (x := hb_aI w 12 18 0 (0 : Int32).toNatClampNeg) dX12_lays_6 (n := 11) rfl (by decide) (by unfold vp_in; decide) rfl ?_
  exact hb_callV (pc := 7) (As := [hb_i (hb_aI w 12 18 0 (0 : Int32).toNatClampNeg)]) (st := []) dX12_lays_7 ml_X12_390 mf_X12_laysMarks mi_X12_laysMarks (ci := 12) rfl rfl (by decide) rfl rfl (Nat.le_of_ble_eq_true rfl) (Nat.le_of_ble_eq_true rfl) h (fun _ _ q => q)
set_option maxRecDepth 20000 in
theorem bk_X12_lays_10 {d : Nat} {w : hb_W} {Q : Option hb_V → hb_W → Prop} {x1 : Int32} (h : hb_O yX12_laysBook cX12_laysBook 4 none d [hb_r 12 0 0, hb_i x1, hb_i (hb_aI w 12 13 0 (2 : Int32).toNatClampNeg)] w (fun rv w1 => hb_R yX12_lays cX12_lays 2 none (d + 1) 21 [some (hb_r 12 0 0), some (hb_i x1)] (rv.toList ++ []) w1 Q)) : hb_R yX12_lays cX12_lays 2 none (d + 1) 10 [some (hb_r 12 0 0), some (hb_i x1)] [] w Q := by
  refine hb_aload_n (pc := 10) (i := 0) dX12_lays_10 rfl rfl ?_
  refine hb_iload_n (pc := 11) (i := 1) dX12_lays_11 rfl rfl ?_
  refine hb_aload_n (pc := 12) (i := 0) dX12_lays_12 rfl rfl ?_
  refine hb_getR (pc := 13) (g1 := 0) dX12_lays_13 fw_X12_51 cw_12 rfl (by decide) rfl (by decide) rfl ?_
  refine hb_iconst (pc := 16) (v := 2) dX12_lays_16 (by decide) ?_
  refine hb_ialdx (pc := 17) (x := hb_aI w 12 13 0 (2 : Int32).toNatClampNeg) dX12_lays_17 (n := 6) rfl (by decide) (by unfold vp_in; decide) rfl ?_
  exact hb_callV (pc := 18) (As := [hb_i x1, hb_i (hb_aI w 12 13 0 (2 : Int32).toNatClampNeg)]) (st := []) dX12_lays_18 ml_X12_393 mf_X12_laysBook mi_X12_laysBook (ci := 12) rfl rfl (by decide) rfl rfl (Nat.le_of_ble_eq_true rfl) (Nat.le_of_ble_eq_true rfl) h (fun _ _ q => q)
set_option maxRecDepth 20000 in
theorem bk_X12_lays_21 {d : Nat} {w : hb_W} {Q : Option hb_V → hb_W → Prop} {x1 : Int32} (h : Q none w) : hb_R yX12_lays cX12_lays 2 none (d + 1) 21 [some (hb_r 12 0 0), some (hb_i x1)] [] w Q := by
  exact hb_vret (pc := 21) dX12_lays_21 rfl h
theorem dX12_unlikeSaid_0 : decode cX12_unlikeSaid 0 = .ok (.aload_n 0, 1) := by decide +kernel
theorem dX12_unlikeSaid_1 : decode cX12_unlikeSaid 1 = .ok (.getfield 355, 3) := by decide +kernel
theorem dX12_unlikeSaid_4 : decode cX12_unlikeSaid 4 = .ok (.aload_n 0, 1) := by decide +kernel
theorem dX12_unlikeSaid_5 : decode cX12_unlikeSaid 5 = .ok (.getfield 358, 3) := by decide +kernel
theorem dX12_unlikeSaid_8 : decode cX12_unlikeSaid 8 = .ok (.if_icmp .ge 8, 3) := by decide +kernel
theorem dX12_unlikeSaid_11 : decode cX12_unlikeSaid 11 = .ok (.aload_n 0, 1) := by decide +kernel
theorem dX12_unlikeSaid_12 : decode cX12_unlikeSaid 12 = .ok (.getfield 355, 3) := by decide +kernel
theorem dX12_unlikeSaid_15 : decode cX12_unlikeSaid 15 = .ok (.ireturn, 1) := by decide +kernel
theorem dX12_unlikeSaid_16 : decode cX12_unlikeSaid 16 = .ok (.aload_n 0, 1) := by decide +kernel
theorem dX12_unlikeSaid_17 : decode cX12_unlikeSaid 17 = .ok (.getfield 81, 3) := by decide +kernel
theorem dX12_unlikeSaid_20 : decode cX12_unlikeSaid 20 = .ok (.aload_n 0, 1) := by decide +kernel
theorem dX12_unlikeSaid_21 : decode cX12_unlikeSaid 21 = .ok (.getfield 358, 3) := by decide +kernel
theorem dX12_unlikeSaid_24 : decode cX12_unlikeSaid 24 = .ok (.iconst 1, 1) := by decide +kernel
theorem dX12_unlikeSaid_25 : decode cX12_unlikeSaid 25 = .ok (.isub, 1) := by decide +kernel
theorem dX12_unlikeSaid_26 : decode cX12_unlikeSaid 26 = .ok (.iaload, 1) := by decide +kernel
theorem dX12_unlikeSaid_27 : decode cX12_unlikeSaid 27 = .ok (.istore_n 1, 1) := by decide +kernel
theorem dX12_unlikeSaid_28 : decode cX12_unlikeSaid 28 = .ok (.iload_n 1, 1) := by decide +kernel
theorem dX12_unlikeSaid_29 : decode cX12_unlikeSaid 29 = .ok (.ifCond .ne 7, 3) := by decide +kernel
theorem dX12_unlikeSaid_32 : decode cX12_unlikeSaid 32 = .ok (.iconst 0, 1) := by decide +kernel
theorem dX12_unlikeSaid_33 : decode cX12_unlikeSaid 33 = .ok (.goto 15, 3) := by decide +kernel
theorem dX12_unlikeSaid_36 : decode cX12_unlikeSaid 36 = .ok (.aload_n 0, 1) := by decide +kernel
theorem dX12_unlikeSaid_37 : decode cX12_unlikeSaid 37 = .ok (.getfield 358, 3) := by decide +kernel
theorem dX12_unlikeSaid_40 : decode cX12_unlikeSaid 40 = .ok (.iconst 1, 1) := by decide +kernel
theorem dX12_unlikeSaid_41 : decode cX12_unlikeSaid 41 = .ok (.isub, 1) := by decide +kernel
theorem dX12_unlikeSaid_42 : decode cX12_unlikeSaid 42 = .ok (.sipush 1000, 3) := by decide +kernel
theorem dX12_unlikeSaid_45 : decode cX12_unlikeSaid 45 = .ok (.imul, 1) := by decide +kernel
theorem dX12_unlikeSaid_46 : decode cX12_unlikeSaid 46 = .ok (.iload_n 1, 1) := by decide +kernel
theorem dX12_unlikeSaid_47 : decode cX12_unlikeSaid 47 = .ok (.idiv, 1) := by decide +kernel
theorem dX12_unlikeSaid_48 : decode cX12_unlikeSaid 48 = .ok (.ireturn, 1) := by decide +kernel
set_option maxRecDepth 20000 in
theorem bk_X12_unlikeSaid_0 {d : Nat} {w : hb_W} {Q : Option hb_V → hb_W → Prop} (h : (((hb_fI w 12 39 0) ≤ (hb_fI w 12 44 0)) → vp_in ((hb_fI w 12 39 0) - (1 : Int32)) 10 ∧ (((¬ (hb_aI w 12 23 0 ((hb_fI w 12 39 0) - (1 : Int32)).toNatClampNeg) = 0) → ¬ hb_aI w 12 23 0 ((hb_fI w 12 39 0) - (1 : Int32)).toNatClampNeg = 0 ∧ (Q (some (hb_i ((((hb_fI w 12 39 0) - (1 : Int32)) * (1000 : Int32)) / (hb_aI w 12 23 0 ((hb_fI w 12 39 0) - (1 : Int32)).toNatClampNeg)))) w)) ∧ (((hb_aI w 12 23 0 ((hb_fI w 12 39 0) - (1 : Int32)).toNatClampNeg) = 0) → Q (some (hb_i (0 : Int32))) w))) ∧ ((¬ (hb_fI w 12 39 0) ≤ (hb_fI w 12 44 0)) → Q (some (hb_i (hb_fI w 12 44 0))) w)) : hb_R yX12_unlikeSaid cX12_unlikeSaid 2 (some .int) d 0 [some (hb_r 12 0 0), none] [] w Q := by
  refine hb_aload_n (pc := 0) (i := 0) dX12_unlikeSaid_0 rfl rfl ?_
  refine hb_getIx (pc := 1) (x := hb_fI w 12 44 0) dX12_unlikeSaid_1 fw_X12_355 cw_12 rfl (by decide) rfl rfl ?_
  refine hb_aload_n (pc := 4) (i := 0) dX12_unlikeSaid_4 rfl rfl ?_
  refine hb_getIx (pc := 5) (x := hb_fI w 12 39 0) dX12_unlikeSaid_5 fw_X12_358 cw_12 rfl (by decide) rfl rfl ?_
  refine hb_icmp_ge (pc := 8) (tgt := 16) dX12_unlikeSaid_8 (by decide) (fun c1 => ?_) (fun c1 => ?_)
  · have ht1 := h.1 c1
    refine hb_aload_n (pc := 16) (i := 0) dX12_unlikeSaid_16 rfl rfl ?_
    refine hb_getR (pc := 17) (g1 := 0) dX12_unlikeSaid_17 fw_X12_81 cw_12 rfl (by decide) rfl (by decide) rfl ?_
    refine hb_aload_n (pc := 20) (i := 0) dX12_unlikeSaid_20 rfl rfl ?_
    refine hb_getIx (pc := 21) (x := hb_fI w 12 39 0) dX12_unlikeSaid_21 fw_X12_358 cw_12 rfl (by decide) rfl rfl ?_
    refine hb_iconst (pc := 24) (v := 1) dX12_unlikeSaid_24 (by decide) ?_
    refine hb_isub (pc := 25) dX12_unlikeSaid_25 ?_
    obtain ⟨ho2, hr2⟩ := ht1
    refine hb_ialdx (pc := 26) (x := hb_aI w 12 23 0 ((hb_fI w 12 39 0) - (1 : Int32)).toNatClampNeg) dX12_unlikeSaid_26 rfl (by decide) ho2 rfl ?_
    refine hb_istore_n (pc := 27) (i := 1) (ls1 := [some (hb_r 12 0 0), some (hb_i (hb_aI w 12 23 0 ((hb_fI w 12 39 0) - (1 : Int32)).toNatClampNeg))]) dX12_unlikeSaid_27 rfl (by decide) rfl ?_
    refine hb_iload_n (pc := 28) (i := 1) dX12_unlikeSaid_28 rfl rfl ?_
    refine hb_if_ne (pc := 29) (tgt := 36) dX12_unlikeSaid_29 (by decide) (fun c3 => ?_) (fun c3 => ?_)
    · have ht3 := hr2.1 c3
      refine hb_aload_n (pc := 36) (i := 0) dX12_unlikeSaid_36 rfl rfl ?_
      refine hb_getIx (pc := 37) (x := hb_fI w 12 39 0) dX12_unlikeSaid_37 fw_X12_358 cw_12 rfl (by decide) rfl rfl ?_
      refine hb_iconst (pc := 40) (v := 1) dX12_unlikeSaid_40 (by decide) ?_
      refine hb_isub (pc := 41) dX12_unlikeSaid_41 ?_
      refine hb_sipush (pc := 42) (v := 1000) dX12_unlikeSaid_42 (by decide) ?_
      refine hb_imul (pc := 45) dX12_unlikeSaid_45 ?_
      refine hb_iload_n (pc := 46) (i := 1) dX12_unlikeSaid_46 rfl rfl ?_
      obtain ⟨ho4, hr4⟩ := ht3
      refine hb_idiv (pc := 47) dX12_unlikeSaid_47 ho4 ?_
      exact hb_iret (pc := 48) dX12_unlikeSaid_48 rfl hr4
    · have ht3 := hr2.2 c3
      refine hb_iconst (pc := 32) (v := 0) dX12_unlikeSaid_32 (by decide) ?_
      refine hb_goto (pc := 33) (tgt := 48) dX12_unlikeSaid_33 (by decide) ?_
      exact hb_iret (pc := 48) dX12_unlikeSaid_48 rfl ht3
  · have ht1 := h.2 c1
    refine hb_aload_n (pc := 11) (i := 0) dX12_unlikeSaid_11 rfl rfl ?_
    refine hb_getIx (pc := 12) (x := hb_fI w 12 44 0) dX12_unlikeSaid_12 fw_X12_355 cw_12 rfl (by decide) rfl rfl ?_
    exact hb_iret (pc := 15) dX12_unlikeSaid_15 rfl ht1
theorem dX12_runsSaid_0 : decode cX12_runsSaid 0 = .ok (.aload_n 0, 1) := by decide +kernel
theorem dX12_runsSaid_1 : decode cX12_runsSaid 1 = .ok (.getfield 374, 3) := by decide +kernel
theorem dX12_runsSaid_4 : decode cX12_runsSaid 4 = .ok (.iconst (-1), 1) := by decide +kernel
theorem dX12_runsSaid_5 : decode cX12_runsSaid 5 = .ok (.if_icmp .ne 7, 3) := by decide +kernel
theorem dX12_runsSaid_8 : decode cX12_runsSaid 8 = .ok (.iconst 0, 1) := by decide +kernel
theorem dX12_runsSaid_9 : decode cX12_runsSaid 9 = .ok (.goto 9, 3) := by decide +kernel
theorem dX12_runsSaid_12 : decode cX12_runsSaid 12 = .ok (.iconst 1, 1) := by decide +kernel
theorem dX12_runsSaid_13 : decode cX12_runsSaid 13 = .ok (.aload_n 0, 1) := by decide +kernel
theorem dX12_runsSaid_14 : decode cX12_runsSaid 14 = .ok (.getfield 374, 3) := by decide +kernel
theorem dX12_runsSaid_17 : decode cX12_runsSaid 17 = .ok (.ishl, 1) := by decide +kernel
theorem dX12_runsSaid_18 : decode cX12_runsSaid 18 = .ok (.ireturn, 1) := by decide +kernel
set_option maxRecDepth 20000 in
theorem bk_X12_runsSaid_0 {d : Nat} {w : hb_W} {Q : Option hb_V → hb_W → Prop} (h : ((¬ (hb_fI w 12 45 0) = (-1 : Int32)) → Q (some (hb_i ((1 : Int32) <<< ((hb_fI w 12 45 0) &&& 31)))) w) ∧ (((hb_fI w 12 45 0) = (-1 : Int32)) → Q (some (hb_i (0 : Int32))) w)) : hb_R yX12_runsSaid cX12_runsSaid 1 (some .int) d 0 [some (hb_r 12 0 0)] [] w Q := by
  refine hb_aload_n (pc := 0) (i := 0) dX12_runsSaid_0 rfl rfl ?_
  refine hb_getIx (pc := 1) (x := hb_fI w 12 45 0) dX12_runsSaid_1 fw_X12_374 cw_12 rfl (by decide) rfl rfl ?_
  refine hb_iconst (pc := 4) (v := -1) dX12_runsSaid_4 (by decide) ?_
  refine hb_icmp_ne (pc := 5) (tgt := 12) dX12_runsSaid_5 (by decide) (fun c1 => ?_) (fun c1 => ?_)
  · have ht1 := h.1 c1
    refine hb_iconst (pc := 12) (v := 1) dX12_runsSaid_12 (by decide) ?_
    refine hb_aload_n (pc := 13) (i := 0) dX12_runsSaid_13 rfl rfl ?_
    refine hb_getIx (pc := 14) (x := hb_fI w 12 45 0) dX12_runsSaid_14 fw_X12_374 cw_12 rfl (by decide) rfl rfl ?_
    refine hb_ishl (pc := 17) dX12_runsSaid_17 ?_
    exact hb_iret (pc := 18) dX12_runsSaid_18 rfl ht1
  · have ht1 := h.2 c1
    refine hb_iconst (pc := 8) (v := 0) dX12_runsSaid_8 (by decide) ?_
    refine hb_goto (pc := 9) (tgt := 18) dX12_runsSaid_9 (by decide) ?_
    exact hb_iret (pc := 18) dX12_runsSaid_18 rfl ht1
theorem dX12_toldOf_0 : decode cX12_toldOf 0 = .ok (.aload_n 0, 1) := by decide +kernel
theorem dX12_toldOf_1 : decode cX12_toldOf 1 = .ok (.getfield 90, 3) := by decide +kernel
theorem dX12_toldOf_4 : decode cX12_toldOf 4 = .ok (.aload_n 0, 1) := by decide +kernel
theorem dX12_toldOf_5 : decode cX12_toldOf 5 = .ok (.iload_n 1, 1) := by decide +kernel
theorem dX12_toldOf_6 : decode cX12_toldOf 6 = .ok (.iconst 2, 1) := by decide +kernel
theorem dX12_toldOf_7 : decode cX12_toldOf 7 = .ok (.invokevirtual 364, 3) := by decide +kernel
theorem dX12_toldOf_10 : decode cX12_toldOf 10 = .ok (.aload_n 0, 1) := by decide +kernel
theorem dX12_toldOf_11 : decode cX12_toldOf 11 = .ok (.getfield 358, 3) := by decide +kernel
theorem dX12_toldOf_14 : decode cX12_toldOf 14 = .ok (.irem, 1) := by decide +kernel
theorem dX12_toldOf_15 : decode cX12_toldOf 15 = .ok (.iaload, 1) := by decide +kernel
theorem dX12_toldOf_16 : decode cX12_toldOf 16 = .ok (.istore_n 2, 1) := by decide +kernel
theorem dX12_toldOf_17 : decode cX12_toldOf 17 = .ok (.iconst 1, 1) := by decide +kernel
theorem dX12_toldOf_18 : decode cX12_toldOf 18 = .ok (.istore_n 3, 1) := by decide +kernel
theorem dX12_toldOf_19 : decode cX12_toldOf 19 = .ok (.iload_n 3, 1) := by decide +kernel
theorem dX12_toldOf_20 : decode cX12_toldOf 20 = .ok (.aload_n 0, 1) := by decide +kernel
theorem dX12_toldOf_21 : decode cX12_toldOf 21 = .ok (.getfield 51, 3) := by decide +kernel
theorem dX12_toldOf_24 : decode cX12_toldOf 24 = .ok (.iconst 3, 1) := by decide +kernel
theorem dX12_toldOf_25 : decode cX12_toldOf 25 = .ok (.iaload, 1) := by decide +kernel
theorem dX12_toldOf_26 : decode cX12_toldOf 26 = .ok (.if_icmp .ge 43, 3) := by decide +kernel
theorem dX12_toldOf_29 : decode cX12_toldOf 29 = .ok (.aload_n 0, 1) := by decide +kernel
theorem dX12_toldOf_30 : decode cX12_toldOf 30 = .ok (.getfield 90, 3) := by decide +kernel
theorem dX12_toldOf_33 : decode cX12_toldOf 33 = .ok (.bipush 9, 2) := by decide +kernel
theorem dX12_toldOf_35 : decode cX12_toldOf 35 = .ok (.iload_n 3, 1) := by decide +kernel
theorem dX12_toldOf_36 : decode cX12_toldOf 36 = .ok (.imul, 1) := by decide +kernel
theorem dX12_toldOf_37 : decode cX12_toldOf 37 = .ok (.aload_n 0, 1) := by decide +kernel
theorem dX12_toldOf_38 : decode cX12_toldOf 38 = .ok (.iload_n 1, 1) := by decide +kernel
theorem dX12_toldOf_39 : decode cX12_toldOf 39 = .ok (.iconst 2, 1) := by decide +kernel
theorem dX12_toldOf_40 : decode cX12_toldOf 40 = .ok (.iload_n 3, 1) := by decide +kernel
theorem dX12_toldOf_41 : decode cX12_toldOf 41 = .ok (.iadd, 1) := by decide +kernel
theorem dX12_toldOf_42 : decode cX12_toldOf 42 = .ok (.invokevirtual 364, 3) := by decide +kernel
theorem dX12_toldOf_45 : decode cX12_toldOf 45 = .ok (.aload_n 0, 1) := by decide +kernel
theorem dX12_toldOf_46 : decode cX12_toldOf 46 = .ok (.getfield 358, 3) := by decide +kernel
theorem dX12_toldOf_49 : decode cX12_toldOf 49 = .ok (.irem, 1) := by decide +kernel
theorem dX12_toldOf_50 : decode cX12_toldOf 50 = .ok (.iadd, 1) := by decide +kernel
theorem dX12_toldOf_51 : decode cX12_toldOf 51 = .ok (.iaload, 1) := by decide +kernel
theorem dX12_toldOf_52 : decode cX12_toldOf 52 = .ok (.istore 4, 2) := by decide +kernel
theorem dX12_toldOf_54 : decode cX12_toldOf 54 = .ok (.iload 4, 2) := by decide +kernel
theorem dX12_toldOf_56 : decode cX12_toldOf 56 = .ok (.iload_n 2, 1) := by decide +kernel
theorem dX12_toldOf_57 : decode cX12_toldOf 57 = .ok (.if_icmp .ge 6, 3) := by decide +kernel
theorem dX12_toldOf_60 : decode cX12_toldOf 60 = .ok (.iload 4, 2) := by decide +kernel
theorem dX12_toldOf_62 : decode cX12_toldOf 62 = .ok (.istore_n 2, 1) := by decide +kernel
theorem dX12_toldOf_63 : decode cX12_toldOf 63 = .ok (.iinc 3 1, 3) := by decide +kernel
theorem dX12_toldOf_66 : decode cX12_toldOf 66 = .ok (.goto (-47), 3) := by decide +kernel
theorem dX12_toldOf_69 : decode cX12_toldOf 69 = .ok (.iload_n 2, 1) := by decide +kernel
theorem dX12_toldOf_70 : decode cX12_toldOf 70 = .ok (.ireturn, 1) := by decide +kernel
set_option maxRecDepth 20000 in
theorem bk_X12_toldOf_0 {d : Nat} {w : hb_W} {Q : Option hb_V → hb_W → Prop} {x1 : Int32} (h : hb_O yX12_marked cX12_marked 3 (some .int) d [hb_r 12 0 0, hb_i x1, hb_i (2 : Int32)] w (fun rv w1 => hb_R yX12_toldOf cX12_toldOf 5 (some .int) (d + 1) 10 [some (hb_r 12 0 0), some (hb_i x1), none, none, none] (rv.toList ++ [hb_r 12 0 26]) w1 Q)) : hb_R yX12_toldOf cX12_toldOf 5 (some .int) (d + 1) 0 [some (hb_r 12 0 0), some (hb_i x1), none, none, none] [] w Q := by
  refine hb_aload_n (pc := 0) (i := 0) dX12_toldOf_0 rfl rfl ?_
  refine hb_getR (pc := 1) (g1 := 0) dX12_toldOf_1 fw_X12_90 cw_12 rfl (by decide) rfl (by decide) rfl ?_
  refine hb_aload_n (pc := 4) (i := 0) dX12_toldOf_4 rfl rfl ?_
  refine hb_iload_n (pc := 5) (i := 1) dX12_toldOf_5 rfl rfl ?_
  refine hb_iconst (pc := 6) (v := 2) dX12_toldOf_6 (by decide) ?_
  exact hb_callV (pc := 7) (As := [hb_i x1, hb_i (2 : Int32)]) (st := [hb_r 12 0 26]) dX12_toldOf_7 ml_X12_364 mf_X12_marked mi_X12_marked (ci := 12) rfl rfl (by decide) rfl rfl (Nat.le_of_ble_eq_true rfl) (Nat.le_of_ble_eq_true rfl) h (fun _ _ q => q)
set_option maxRecDepth 20000 in
theorem bk_X12_toldOf_10 {d : Nat} {w : hb_W} {Q : Option hb_V → hb_W → Prop} {x1 : Int32} {xs1 : Int32} (h : ¬ hb_fI w 12 39 0 = 0 ∧ (vp_in (xs1 - xs1 / (hb_fI w 12 39 0) * (hb_fI w 12 39 0)) 27 ∧ (hb_R yX12_toldOf cX12_toldOf 5 (some .int) (d + 1) 19 [some (hb_r 12 0 0), some (hb_i x1), some (hb_i (hb_aI w 12 26 0 (xs1 - xs1 / (hb_fI w 12 39 0) * (hb_fI w 12 39 0)).toNatClampNeg)), some (hb_i (1 : Int32)), none] [] w Q))) : hb_R yX12_toldOf cX12_toldOf 5 (some .int) (d + 1) 10 [some (hb_r 12 0 0), some (hb_i x1), none, none, none] [hb_i xs1, hb_r 12 0 26] w Q := by
  refine hb_aload_n (pc := 10) (i := 0) dX12_toldOf_10 rfl rfl ?_
  refine hb_getIx (pc := 11) (x := hb_fI w 12 39 0) dX12_toldOf_11 fw_X12_358 cw_12 rfl (by decide) rfl rfl ?_
  obtain ⟨ho1, hr1⟩ := h
  refine hb_irem (pc := 14) dX12_toldOf_14 ho1 ?_
  obtain ⟨ho2, hr2⟩ := hr1
  refine hb_ialdx (pc := 15) (x := hb_aI w 12 26 0 (xs1 - xs1 / (hb_fI w 12 39 0) * (hb_fI w 12 39 0)).toNatClampNeg) dX12_toldOf_15 rfl (by decide) ho2 rfl ?_
  refine hb_istore_n (pc := 16) (i := 2) (ls1 := [some (hb_r 12 0 0), some (hb_i x1), some (hb_i (hb_aI w 12 26 0 (xs1 - xs1 / (hb_fI w 12 39 0) * (hb_fI w 12 39 0)).toNatClampNeg)), none, none]) dX12_toldOf_16 rfl (by decide) rfl ?_
  refine hb_iconst (pc := 17) (v := 1) dX12_toldOf_17 (by decide) ?_
  refine hb_istore_n (pc := 18) (i := 3) (ls1 := [some (hb_r 12 0 0), some (hb_i x1), some (hb_i (hb_aI w 12 26 0 (xs1 - xs1 / (hb_fI w 12 39 0) * (hb_fI w 12 39 0)).toNatClampNeg)), some (hb_i (1 : Int32)), none]) dX12_toldOf_18 rfl (by decide) rfl ?_
  exact hr2
set_option maxRecDepth 20000 in
theorem bk_X12_toldOf_19 {d : Nat} {w : hb_W} {Q : Option hb_V → hb_W → Prop} {x1 : Int32} {x2 : Int32} {x3 : Int32} (h : (((hb_aI w 12 13 0 (3 : Int32).toNatClampNeg) ≤ x3) → Q (some (hb_i x2)) w) ∧ ((¬ (hb_aI w 12 13 0 (3 : Int32).toNatClampNeg) ≤ x3) → hb_O yX12_marked cX12_marked 3 (some .int) d [hb_r 12 0 0, hb_i x1, hb_i ((2 : Int32) + x3)] w (fun rv w1 => hb_R yX12_toldOf cX12_toldOf 5 (some .int) (d + 1) 45 [some (hb_r 12 0 0), some (hb_i x1), some (hb_i x2), some (hb_i x3), none] (rv.toList ++ [hb_i ((9 : Int32) * x3), hb_r 12 0 26]) w1 Q))) : hb_R yX12_toldOf cX12_toldOf 5 (some .int) (d + 1) 19 [some (hb_r 12 0 0), some (hb_i x1), some (hb_i x2), some (hb_i x3), none] [] w Q := by
  refine hb_iload_n (pc := 19) (i := 3) dX12_toldOf_19 rfl rfl ?_
  refine hb_aload_n (pc := 20) (i := 0) dX12_toldOf_20 rfl rfl ?_
  refine hb_getR (pc := 21) (g1 := 0) dX12_toldOf_21 fw_X12_51 cw_12 rfl (by decide) rfl (by decide) rfl ?_
  refine hb_iconst (pc := 24) (v := 3) dX12_toldOf_24 (by decide) ?_
  refine hb_ialdx (pc := 25) (x := hb_aI w 12 13 0 (3 : Int32).toNatClampNeg) dX12_toldOf_25 (n := 6) rfl (by decide) (by unfold vp_in; decide) rfl ?_
  refine hb_icmp_ge (pc := 26) (tgt := 69) dX12_toldOf_26 (by decide) (fun c1 => ?_) (fun c1 => ?_)
  · have ht1 := h.1 c1
    refine hb_iload_n (pc := 69) (i := 2) dX12_toldOf_69 rfl rfl ?_
    exact hb_iret (pc := 70) dX12_toldOf_70 rfl ht1
  · have ht1 := h.2 c1
    refine hb_aload_n (pc := 29) (i := 0) dX12_toldOf_29 rfl rfl ?_
    refine hb_getR (pc := 30) (g1 := 0) dX12_toldOf_30 fw_X12_90 cw_12 rfl (by decide) rfl (by decide) rfl ?_
    refine hb_bipush (pc := 33) (v := 9) dX12_toldOf_33 (by decide) ?_
    refine hb_iload_n (pc := 35) (i := 3) dX12_toldOf_35 rfl rfl ?_
    refine hb_imul (pc := 36) dX12_toldOf_36 ?_
    refine hb_aload_n (pc := 37) (i := 0) dX12_toldOf_37 rfl rfl ?_
    refine hb_iload_n (pc := 38) (i := 1) dX12_toldOf_38 rfl rfl ?_
    refine hb_iconst (pc := 39) (v := 2) dX12_toldOf_39 (by decide) ?_
    refine hb_iload_n (pc := 40) (i := 3) dX12_toldOf_40 rfl rfl ?_
    refine hb_iadd (pc := 41) dX12_toldOf_41 ?_
    exact hb_callV (pc := 42) (As := [hb_i x1, hb_i ((2 : Int32) + x3)]) (st := [hb_i ((9 : Int32) * x3), hb_r 12 0 26]) dX12_toldOf_42 ml_X12_364 mf_X12_marked mi_X12_marked (ci := 12) rfl rfl (by decide) rfl rfl (Nat.le_of_ble_eq_true rfl) (Nat.le_of_ble_eq_true rfl) ht1 (fun _ _ q => q)
set_option maxRecDepth 20000 in
theorem bk_X12_toldOf_45 {d : Nat} {w : hb_W} {Q : Option hb_V → hb_W → Prop} {x1 : Int32} {x2 : Int32} {x3 : Int32} {xs1 : Int32} {xs2 : Int32} (h : ¬ hb_fI w 12 39 0 = 0 ∧ (vp_in (xs1 + (xs2 - xs2 / (hb_fI w 12 39 0) * (hb_fI w 12 39 0))) 27 ∧ (((x2 ≤ (hb_aI w 12 26 0 (xs1 + (xs2 - xs2 / (hb_fI w 12 39 0) * (hb_fI w 12 39 0))).toNatClampNeg)) → hb_R yX12_toldOf cX12_toldOf 5 (some .int) (d + 1) 19 [some (hb_r 12 0 0), some (hb_i x1), some (hb_i x2), some (hb_i (x3 + (1 : Int32))), some (hb_i (hb_aI w 12 26 0 (xs1 + (xs2 - xs2 / (hb_fI w 12 39 0) * (hb_fI w 12 39 0))).toNatClampNeg))] [] w Q) ∧ ((¬ x2 ≤ (hb_aI w 12 26 0 (xs1 + (xs2 - xs2 / (hb_fI w 12 39 0) * (hb_fI w 12 39 0))).toNatClampNeg)) → hb_R yX12_toldOf cX12_toldOf 5 (some .int) (d + 1) 19 [some (hb_r 12 0 0), some (hb_i x1), some (hb_i (hb_aI w 12 26 0 (xs1 + (xs2 - xs2 / (hb_fI w 12 39 0) * (hb_fI w 12 39 0))).toNatClampNeg)), some (hb_i (x3 + (1 : Int32))), some (hb_i (hb_aI w 12 26 0 (xs1 + (xs2 - xs2 / (hb_fI w 12 39 0) * (hb_fI w 12 39 0))).toNatClampNeg))] [] w Q)))) : hb_R yX12_toldOf cX12_toldOf 5 (some .int) (d + 1) 45 [some (hb_r 12 0 0), some (hb_i x1), some (hb_i x2), some (hb_i x3), none] [hb_i xs2, hb_i xs1, hb_r 12 0 26] w Q := by
  refine hb_aload_n (pc := 45) (i := 0) dX12_toldOf_45 rfl rfl ?_
  refine hb_getIx (pc := 46) (x := hb_fI w 12 39 0) dX12_toldOf_46 fw_X12_358 cw_12 rfl (by decide) rfl rfl ?_
  obtain ⟨ho1, hr1⟩ := h
  refine hb_irem (pc := 49) dX12_toldOf_49 ho1 ?_
  refine hb_iadd (pc := 50) dX12_toldOf_50 ?_
  obtain ⟨ho2, hr2⟩ := hr1
  refine hb_ialdx (pc := 51) (x := hb_aI w 12 26 0 (xs1 + (xs2 - xs2 / (hb_fI w 12 39 0) * (hb_fI w 12 39 0))).toNatClampNeg) dX12_toldOf_51 rfl (by decide) ho2 rfl ?_
  refine hb_istore (pc := 52) (i := 4) (ls1 := [some (hb_r 12 0 0), some (hb_i x1), some (hb_i x2), some (hb_i x3), some (hb_i (hb_aI w 12 26 0 (xs1 + (xs2 - xs2 / (hb_fI w 12 39 0) * (hb_fI w 12 39 0))).toNatClampNeg))]) dX12_toldOf_52 (by decide) rfl ?_
  refine hb_iload (pc := 54) dX12_toldOf_54 rfl ?_
  refine hb_iload_n (pc := 56) (i := 2) dX12_toldOf_56 rfl rfl ?_
  refine hb_icmp_ge (pc := 57) (tgt := 63) dX12_toldOf_57 (by decide) (fun c3 => ?_) (fun c3 => ?_)
  · have ht3 := hr2.1 c3
    refine hb_iinc (pc := 63) (v := x3 + (1 : Int32)) (ls1 := [some (hb_r 12 0 0), some (hb_i x1), some (hb_i x2), some (hb_i (x3 + (1 : Int32))), some (hb_i (hb_aI w 12 26 0 (xs1 + (xs2 - xs2 / (hb_fI w 12 39 0) * (hb_fI w 12 39 0))).toNatClampNeg))]) dX12_toldOf_63 rfl rfl (by decide) rfl ?_
    refine hb_goto (pc := 66) (tgt := 19) dX12_toldOf_66 (by decide) ?_
    exact ht3
  · have ht3 := hr2.2 c3
    refine hb_iload (pc := 60) dX12_toldOf_60 rfl ?_
    refine hb_istore_n (pc := 62) (i := 2) (ls1 := [some (hb_r 12 0 0), some (hb_i x1), some (hb_i (hb_aI w 12 26 0 (xs1 + (xs2 - xs2 / (hb_fI w 12 39 0) * (hb_fI w 12 39 0))).toNatClampNeg)), some (hb_i x3), some (hb_i (hb_aI w 12 26 0 (xs1 + (xs2 - xs2 / (hb_fI w 12 39 0) * (hb_fI w 12 39 0))).toNatClampNeg))]) dX12_toldOf_62 rfl (by decide) rfl ?_
    refine hb_iinc (pc := 63) (v := x3 + (1 : Int32)) (ls1 := [some (hb_r 12 0 0), some (hb_i x1), some (hb_i (hb_aI w 12 26 0 (xs1 + (xs2 - xs2 / (hb_fI w 12 39 0) * (hb_fI w 12 39 0))).toNatClampNeg)), some (hb_i (x3 + (1 : Int32))), some (hb_i (hb_aI w 12 26 0 (xs1 + (xs2 - xs2 / (hb_fI w 12 39 0) * (hb_fI w 12 39 0))).toNatClampNeg))]) dX12_toldOf_63 rfl rfl (by decide) rfl ?_
    refine hb_goto (pc := 66) (tgt := 19) dX12_toldOf_66 (by decide) ?_
    exact ht3
theorem dX12_wasThere_0 : decode cX12_wasThere 0 = .ok (.aload_n 0, 1) := by decide +kernel
theorem dX12_wasThere_1 : decode cX12_wasThere 1 = .ok (.getfield 93, 3) := by decide +kernel
theorem dX12_wasThere_4 : decode cX12_wasThere 4 = .ok (.aload_n 0, 1) := by decide +kernel
theorem dX12_wasThere_5 : decode cX12_wasThere 5 = .ok (.iload_n 1, 1) := by decide +kernel
theorem dX12_wasThere_6 : decode cX12_wasThere 6 = .ok (.iconst 5, 1) := by decide +kernel
theorem dX12_wasThere_7 : decode cX12_wasThere 7 = .ok (.invokevirtual 364, 3) := by decide +kernel
theorem dX12_wasThere_10 : decode cX12_wasThere 10 = .ok (.bipush 8, 2) := by decide +kernel
theorem dX12_wasThere_12 : decode cX12_wasThere 12 = .ok (.aload_n 0, 1) := by decide +kernel
theorem dX12_wasThere_13 : decode cX12_wasThere 13 = .ok (.getfield 358, 3) := by decide +kernel
theorem dX12_wasThere_16 : decode cX12_wasThere 16 = .ok (.imul, 1) := by decide +kernel
theorem dX12_wasThere_17 : decode cX12_wasThere 17 = .ok (.irem, 1) := by decide +kernel
theorem dX12_wasThere_18 : decode cX12_wasThere 18 = .ok (.baload, 1) := by decide +kernel
theorem dX12_wasThere_19 : decode cX12_wasThere 19 = .ok (.ifCond .eq 30, 3) := by decide +kernel
theorem dX12_wasThere_22 : decode cX12_wasThere 22 = .ok (.aload_n 0, 1) := by decide +kernel
theorem dX12_wasThere_23 : decode cX12_wasThere 23 = .ok (.getfield 93, 3) := by decide +kernel
theorem dX12_wasThere_26 : decode cX12_wasThere 26 = .ok (.aload_n 0, 1) := by decide +kernel
theorem dX12_wasThere_27 : decode cX12_wasThere 27 = .ok (.iload_n 1, 1) := by decide +kernel
theorem dX12_wasThere_28 : decode cX12_wasThere 28 = .ok (.bipush 6, 2) := by decide +kernel
theorem dX12_wasThere_30 : decode cX12_wasThere 30 = .ok (.invokevirtual 364, 3) := by decide +kernel
theorem dX12_wasThere_33 : decode cX12_wasThere 33 = .ok (.bipush 8, 2) := by decide +kernel
theorem dX12_wasThere_35 : decode cX12_wasThere 35 = .ok (.aload_n 0, 1) := by decide +kernel
theorem dX12_wasThere_36 : decode cX12_wasThere 36 = .ok (.getfield 358, 3) := by decide +kernel
theorem dX12_wasThere_39 : decode cX12_wasThere 39 = .ok (.imul, 1) := by decide +kernel
theorem dX12_wasThere_40 : decode cX12_wasThere 40 = .ok (.irem, 1) := by decide +kernel
theorem dX12_wasThere_41 : decode cX12_wasThere 41 = .ok (.baload, 1) := by decide +kernel
theorem dX12_wasThere_42 : decode cX12_wasThere 42 = .ok (.ifCond .eq 7, 3) := by decide +kernel
theorem dX12_wasThere_45 : decode cX12_wasThere 45 = .ok (.iconst 1, 1) := by decide +kernel
theorem dX12_wasThere_46 : decode cX12_wasThere 46 = .ok (.goto 4, 3) := by decide +kernel
theorem dX12_wasThere_49 : decode cX12_wasThere 49 = .ok (.iconst 0, 1) := by decide +kernel
theorem dX12_wasThere_50 : decode cX12_wasThere 50 = .ok (.ireturn, 1) := by decide +kernel
set_option maxRecDepth 20000 in
theorem bk_X12_wasThere_0 {d : Nat} {w : hb_W} {Q : Option hb_V → hb_W → Prop} {x1 : Int32} (h : hb_O yX12_marked cX12_marked 3 (some .int) d [hb_r 12 0 0, hb_i x1, hb_i (5 : Int32)] w (fun rv w1 => hb_R yX12_wasThere cX12_wasThere 2 (some .boolean) (d + 1) 10 [some (hb_r 12 0 0), some (hb_i x1)] (rv.toList ++ [hb_r 12 0 27]) w1 Q)) : hb_R yX12_wasThere cX12_wasThere 2 (some .boolean) (d + 1) 0 [some (hb_r 12 0 0), some (hb_i x1)] [] w Q := by
  refine hb_aload_n (pc := 0) (i := 0) dX12_wasThere_0 rfl rfl ?_
  refine hb_getR (pc := 1) (g1 := 0) dX12_wasThere_1 fw_X12_93 cw_12 rfl (by decide) rfl (by decide) rfl ?_
  refine hb_aload_n (pc := 4) (i := 0) dX12_wasThere_4 rfl rfl ?_
  refine hb_iload_n (pc := 5) (i := 1) dX12_wasThere_5 rfl rfl ?_
  refine hb_iconst (pc := 6) (v := 5) dX12_wasThere_6 (by decide) ?_
  exact hb_callV (pc := 7) (As := [hb_i x1, hb_i (5 : Int32)]) (st := [hb_r 12 0 27]) dX12_wasThere_7 ml_X12_364 mf_X12_marked mi_X12_marked (ci := 12) rfl rfl (by decide) rfl rfl (Nat.le_of_ble_eq_true rfl) (Nat.le_of_ble_eq_true rfl) h (fun _ _ q => q)
set_option maxRecDepth 20000 in
theorem bk_X12_wasThere_10 {d : Nat} {w : hb_W} {Q : Option hb_V → hb_W → Prop} {x1 : Int32} {xs1 : Int32} (h : ¬ (8 : Int32) * (hb_fI w 12 39 0) = 0 ∧ (vp_in (xs1 - xs1 / ((8 : Int32) * (hb_fI w 12 39 0)) * ((8 : Int32) * (hb_fI w 12 39 0))) 72 ∧ ((((hb_aI w 12 27 0 (xs1 - xs1 / ((8 : Int32) * (hb_fI w 12 39 0)) * ((8 : Int32) * (hb_fI w 12 39 0))).toNatClampNeg) = 0) → Q (some (hb_i (0 : Int32))) w) ∧ ((¬ (hb_aI w 12 27 0 (xs1 - xs1 / ((8 : Int32) * (hb_fI w 12 39 0)) * ((8 : Int32) * (hb_fI w 12 39 0))).toNatClampNeg) = 0) → hb_O yX12_marked cX12_marked 3 (some .int) d [hb_r 12 0 0, hb_i x1, hb_i (6 : Int32)] w (fun rv w1 => hb_R yX12_wasThere cX12_wasThere 2 (some .boolean) (d + 1) 33 [some (hb_r 12 0 0), some (hb_i x1)] (rv.toList ++ [hb_r 12 0 27]) w1 Q))))) : hb_R yX12_wasThere cX12_wasThere 2 (some .boolean) (d + 1) 10 [some (hb_r 12 0 0), some (hb_i x1)] [hb_i xs1, hb_r 12 0 27] w Q := by
  refine hb_bipush (pc := 10) (v := 8) dX12_wasThere_10 (by decide) ?_
  refine hb_aload_n (pc := 12) (i := 0) dX12_wasThere_12 rfl rfl ?_
  refine hb_getIx (pc := 13) (x := hb_fI w 12 39 0) dX12_wasThere_13 fw_X12_358 cw_12 rfl (by decide) rfl rfl ?_
  refine hb_imul (pc := 16) dX12_wasThere_16 ?_
  obtain ⟨ho1, hr1⟩ := h
  refine hb_irem (pc := 17) dX12_wasThere_17 ho1 ?_
  obtain ⟨ho2, hr2⟩ := hr1
  refine hb_zaldx (pc := 18) (x := hb_aI w 12 27 0 (xs1 - xs1 / ((8 : Int32) * (hb_fI w 12 39 0)) * ((8 : Int32) * (hb_fI w 12 39 0))).toNatClampNeg) dX12_wasThere_18 rfl (by decide) ho2 rfl ?_
  refine hb_if_eq (pc := 19) (tgt := 49) dX12_wasThere_19 (by decide) (fun c3 => ?_) (fun c3 => ?_)
  · have ht3 := hr2.1 c3
    refine hb_iconst (pc := 49) (v := 0) dX12_wasThere_49 (by decide) ?_
    exact hb_zret (pc := 50) dX12_wasThere_50 rfl (Or.inl rfl) ht3
  · have ht3 := hr2.2 c3
    refine hb_aload_n (pc := 22) (i := 0) dX12_wasThere_22 rfl rfl ?_
    refine hb_getR (pc := 23) (g1 := 0) dX12_wasThere_23 fw_X12_93 cw_12 rfl (by decide) rfl (by decide) rfl ?_
    refine hb_aload_n (pc := 26) (i := 0) dX12_wasThere_26 rfl rfl ?_
    refine hb_iload_n (pc := 27) (i := 1) dX12_wasThere_27 rfl rfl ?_
    refine hb_bipush (pc := 28) (v := 6) dX12_wasThere_28 (by decide) ?_
    exact hb_callV (pc := 30) (As := [hb_i x1, hb_i (6 : Int32)]) (st := [hb_r 12 0 27]) dX12_wasThere_30 ml_X12_364 mf_X12_marked mi_X12_marked (ci := 12) rfl rfl (by decide) rfl rfl (Nat.le_of_ble_eq_true rfl) (Nat.le_of_ble_eq_true rfl) ht3 (fun _ _ q => q)
set_option maxRecDepth 20000 in
theorem bk_X12_wasThere_33 {d : Nat} {w : hb_W} {Q : Option hb_V → hb_W → Prop} {x1 : Int32} {xs1 : Int32} (h : ¬ (8 : Int32) * (hb_fI w 12 39 0) = 0 ∧ (vp_in (xs1 - xs1 / ((8 : Int32) * (hb_fI w 12 39 0)) * ((8 : Int32) * (hb_fI w 12 39 0))) 72 ∧ ((((hb_aI w 12 27 0 (xs1 - xs1 / ((8 : Int32) * (hb_fI w 12 39 0)) * ((8 : Int32) * (hb_fI w 12 39 0))).toNatClampNeg) = 0) → Q (some (hb_i (0 : Int32))) w) ∧ ((¬ (hb_aI w 12 27 0 (xs1 - xs1 / ((8 : Int32) * (hb_fI w 12 39 0)) * ((8 : Int32) * (hb_fI w 12 39 0))).toNatClampNeg) = 0) → Q (some (hb_i (1 : Int32))) w)))) : hb_R yX12_wasThere cX12_wasThere 2 (some .boolean) (d + 1) 33 [some (hb_r 12 0 0), some (hb_i x1)] [hb_i xs1, hb_r 12 0 27] w Q := by
  refine hb_bipush (pc := 33) (v := 8) dX12_wasThere_33 (by decide) ?_
  refine hb_aload_n (pc := 35) (i := 0) dX12_wasThere_35 rfl rfl ?_
  refine hb_getIx (pc := 36) (x := hb_fI w 12 39 0) dX12_wasThere_36 fw_X12_358 cw_12 rfl (by decide) rfl rfl ?_
  refine hb_imul (pc := 39) dX12_wasThere_39 ?_
  obtain ⟨ho1, hr1⟩ := h
  refine hb_irem (pc := 40) dX12_wasThere_40 ho1 ?_
  obtain ⟨ho2, hr2⟩ := hr1
  refine hb_zaldx (pc := 41) (x := hb_aI w 12 27 0 (xs1 - xs1 / ((8 : Int32) * (hb_fI w 12 39 0)) * ((8 : Int32) * (hb_fI w 12 39 0))).toNatClampNeg) dX12_wasThere_41 rfl (by decide) ho2 rfl ?_
  refine hb_if_eq (pc := 42) (tgt := 49) dX12_wasThere_42 (by decide) (fun c3 => ?_) (fun c3 => ?_)
  · have ht3 := hr2.1 c3
    refine hb_iconst (pc := 49) (v := 0) dX12_wasThere_49 (by decide) ?_
    exact hb_zret (pc := 50) dX12_wasThere_50 rfl (Or.inl rfl) ht3
  · have ht3 := hr2.2 c3
    refine hb_iconst (pc := 45) (v := 1) dX12_wasThere_45 (by decide) ?_
    refine hb_goto (pc := 46) (tgt := 50) dX12_wasThere_46 (by decide) ?_
    exact hb_zret (pc := 50) dX12_wasThere_50 rfl (Or.inr rfl) ht3
theorem dX12_middleSaid_0 : decode cX12_middleSaid 0 = .ok (.aload_n 0, 1) := by decide +kernel
theorem dX12_middleSaid_1 : decode cX12_middleSaid 1 = .ok (.getfield 361, 3) := by decide +kernel
theorem dX12_middleSaid_4 : decode cX12_middleSaid 4 = .ok (.ifCond .ne 5, 3) := by decide +kernel
theorem dX12_middleSaid_7 : decode cX12_middleSaid 7 = .ok (.iconst (-1), 1) := by decide +kernel
theorem dX12_middleSaid_8 : decode cX12_middleSaid 8 = .ok (.ireturn, 1) := by decide +kernel
theorem dX12_middleSaid_9 : decode cX12_middleSaid 9 = .ok (.iconst 0, 1) := by decide +kernel
theorem dX12_middleSaid_10 : decode cX12_middleSaid 10 = .ok (.istore_n 1, 1) := by decide +kernel
theorem dX12_middleSaid_11 : decode cX12_middleSaid 11 = .ok (.aload_n 0, 1) := by decide +kernel
theorem dX12_middleSaid_12 : decode cX12_middleSaid 12 = .ok (.getfield 97, 3) := by decide +kernel
theorem dX12_middleSaid_15 : decode cX12_middleSaid 15 = .ok (.iconst 0, 1) := by decide +kernel
theorem dX12_middleSaid_16 : decode cX12_middleSaid 16 = .ok (.iaload, 1) := by decide +kernel
theorem dX12_middleSaid_17 : decode cX12_middleSaid 17 = .ok (.istore_n 2, 1) := by decide +kernel
theorem dX12_middleSaid_18 : decode cX12_middleSaid 18 = .ok (.iload_n 2, 1) := by decide +kernel
theorem dX12_middleSaid_19 : decode cX12_middleSaid 19 = .ok (.aload_n 0, 1) := by decide +kernel
theorem dX12_middleSaid_20 : decode cX12_middleSaid 20 = .ok (.getfield 361, 3) := by decide +kernel
theorem dX12_middleSaid_23 : decode cX12_middleSaid 23 = .ok (.iconst 2, 1) := by decide +kernel
theorem dX12_middleSaid_24 : decode cX12_middleSaid 24 = .ok (.idiv, 1) := by decide +kernel
theorem dX12_middleSaid_25 : decode cX12_middleSaid 25 = .ok (.if_icmp .gt 18, 3) := by decide +kernel
theorem dX12_middleSaid_28 : decode cX12_middleSaid 28 = .ok (.iinc 1 1, 3) := by decide +kernel
theorem dX12_middleSaid_31 : decode cX12_middleSaid 31 = .ok (.iload_n 2, 1) := by decide +kernel
theorem dX12_middleSaid_32 : decode cX12_middleSaid 32 = .ok (.aload_n 0, 1) := by decide +kernel
theorem dX12_middleSaid_33 : decode cX12_middleSaid 33 = .ok (.getfield 97, 3) := by decide +kernel
theorem dX12_middleSaid_36 : decode cX12_middleSaid 36 = .ok (.iload_n 1, 1) := by decide +kernel
theorem dX12_middleSaid_37 : decode cX12_middleSaid 37 = .ok (.iaload, 1) := by decide +kernel
theorem dX12_middleSaid_38 : decode cX12_middleSaid 38 = .ok (.iadd, 1) := by decide +kernel
theorem dX12_middleSaid_39 : decode cX12_middleSaid 39 = .ok (.istore_n 2, 1) := by decide +kernel
theorem dX12_middleSaid_40 : decode cX12_middleSaid 40 = .ok (.goto (-22), 3) := by decide +kernel
theorem dX12_middleSaid_43 : decode cX12_middleSaid 43 = .ok (.bipush 100, 2) := by decide +kernel
theorem dX12_middleSaid_45 : decode cX12_middleSaid 45 = .ok (.iload_n 1, 1) := by decide +kernel
theorem dX12_middleSaid_46 : decode cX12_middleSaid 46 = .ok (.imul, 1) := by decide +kernel
theorem dX12_middleSaid_47 : decode cX12_middleSaid 47 = .ok (.aload_n 0, 1) := by decide +kernel
theorem dX12_middleSaid_48 : decode cX12_middleSaid 48 = .ok (.getfield 358, 3) := by decide +kernel
theorem dX12_middleSaid_51 : decode cX12_middleSaid 51 = .ok (.iadd, 1) := by decide +kernel
theorem dX12_middleSaid_52 : decode cX12_middleSaid 52 = .ok (.iconst 1, 1) := by decide +kernel
theorem dX12_middleSaid_53 : decode cX12_middleSaid 53 = .ok (.isub, 1) := by decide +kernel
theorem dX12_middleSaid_54 : decode cX12_middleSaid 54 = .ok (.aload_n 0, 1) := by decide +kernel
theorem dX12_middleSaid_55 : decode cX12_middleSaid 55 = .ok (.getfield 358, 3) := by decide +kernel
theorem dX12_middleSaid_58 : decode cX12_middleSaid 58 = .ok (.idiv, 1) := by decide +kernel
theorem dX12_middleSaid_59 : decode cX12_middleSaid 59 = .ok (.ireturn, 1) := by decide +kernel
set_option maxRecDepth 20000 in
theorem bk_X12_middleSaid_0 {d : Nat} {w : hb_W} {Q : Option hb_V → hb_W → Prop} (h : ((¬ (hb_fI w 12 40 0) = 0) → hb_R yX12_middleSaid cX12_middleSaid 3 (some .int) d 18 [some (hb_r 12 0 0), some (hb_i (0 : Int32)), some (hb_i (hb_aI w 12 28 0 (0 : Int32).toNatClampNeg))] [] w Q) ∧ (((hb_fI w 12 40 0) = 0) → Q (some (hb_i (-1 : Int32))) w)) : hb_R yX12_middleSaid cX12_middleSaid 3 (some .int) d 0 [some (hb_r 12 0 0), none, none] [] w Q := by
  refine hb_aload_n (pc := 0) (i := 0) dX12_middleSaid_0 rfl rfl ?_
  refine hb_getIx (pc := 1) (x := hb_fI w 12 40 0) dX12_middleSaid_1 fw_X12_361 cw_12 rfl (by decide) rfl rfl ?_
  refine hb_if_ne (pc := 4) (tgt := 9) dX12_middleSaid_4 (by decide) (fun c1 => ?_) (fun c1 => ?_)
  · have ht1 := h.1 c1
    refine hb_iconst (pc := 9) (v := 0) dX12_middleSaid_9 (by decide) ?_
    refine hb_istore_n (pc := 10) (i := 1) (ls1 := [some (hb_r 12 0 0), some (hb_i (0 : Int32)), none]) dX12_middleSaid_10 rfl (by decide) rfl ?_
    refine hb_aload_n (pc := 11) (i := 0) dX12_middleSaid_11 rfl rfl ?_
    refine hb_getR (pc := 12) (g1 := 0) dX12_middleSaid_12 fw_X12_97 cw_12 rfl (by decide) rfl (by decide) rfl ?_
    refine hb_iconst (pc := 15) (v := 0) dX12_middleSaid_15 (by decide) ?_
    refine hb_ialdx (pc := 16) (x := hb_aI w 12 28 0 (0 : Int32).toNatClampNeg) dX12_middleSaid_16 (n := 9) rfl (by decide) (by unfold vp_in; decide) rfl ?_
    refine hb_istore_n (pc := 17) (i := 2) (ls1 := [some (hb_r 12 0 0), some (hb_i (0 : Int32)), some (hb_i (hb_aI w 12 28 0 (0 : Int32).toNatClampNeg))]) dX12_middleSaid_17 rfl (by decide) rfl ?_
    exact ht1
  · have ht1 := h.2 c1
    refine hb_iconst (pc := 7) (v := -1) dX12_middleSaid_7 (by decide) ?_
    exact hb_iret (pc := 8) dX12_middleSaid_8 rfl ht1
set_option maxRecDepth 20000 in
theorem bk_X12_middleSaid_18 {d : Nat} {w : hb_W} {Q : Option hb_V → hb_W → Prop} {x1 : Int32} {x2 : Int32} (h : ((((hb_fI w 12 40 0) / (2 : Int32)) < x2) → ¬ hb_fI w 12 39 0 = 0 ∧ (Q (some (hb_i (((((100 : Int32) * x1) + (hb_fI w 12 39 0)) - (1 : Int32)) / (hb_fI w 12 39 0)))) w)) ∧ ((¬ ((hb_fI w 12 40 0) / (2 : Int32)) < x2) → vp_in (x1 + (1 : Int32)) 9 ∧ (hb_R yX12_middleSaid cX12_middleSaid 3 (some .int) d 18 [some (hb_r 12 0 0), some (hb_i (x1 + (1 : Int32))), some (hb_i (x2 + (hb_aI w 12 28 0 (x1 + (1 : Int32)).toNatClampNeg)))] [] w Q))) : hb_R yX12_middleSaid cX12_middleSaid 3 (some .int) d 18 [some (hb_r 12 0 0), some (hb_i x1), some (hb_i x2)] [] w Q := by
  refine hb_iload_n (pc := 18) (i := 2) dX12_middleSaid_18 rfl rfl ?_
  refine hb_aload_n (pc := 19) (i := 0) dX12_middleSaid_19 rfl rfl ?_
  refine hb_getIx (pc := 20) (x := hb_fI w 12 40 0) dX12_middleSaid_20 fw_X12_361 cw_12 rfl (by decide) rfl rfl ?_
  refine hb_iconst (pc := 23) (v := 2) dX12_middleSaid_23 (by decide) ?_
  refine hb_idiv (pc := 24) dX12_middleSaid_24 (by decide) ?_
  refine hb_icmp_gt (pc := 25) (tgt := 43) dX12_middleSaid_25 (by decide) (fun c1 => ?_) (fun c1 => ?_)
  · have ht1 := h.1 c1
    refine hb_bipush (pc := 43) (v := 100) dX12_middleSaid_43 (by decide) ?_
    refine hb_iload_n (pc := 45) (i := 1) dX12_middleSaid_45 rfl rfl ?_
    refine hb_imul (pc := 46) dX12_middleSaid_46 ?_
    refine hb_aload_n (pc := 47) (i := 0) dX12_middleSaid_47 rfl rfl ?_
    refine hb_getIx (pc := 48) (x := hb_fI w 12 39 0) dX12_middleSaid_48 fw_X12_358 cw_12 rfl (by decide) rfl rfl ?_
    refine hb_iadd (pc := 51) dX12_middleSaid_51 ?_
    refine hb_iconst (pc := 52) (v := 1) dX12_middleSaid_52 (by decide) ?_
    refine hb_isub (pc := 53) dX12_middleSaid_53 ?_
    refine hb_aload_n (pc := 54) (i := 0) dX12_middleSaid_54 rfl rfl ?_
    refine hb_getIx (pc := 55) (x := hb_fI w 12 39 0) dX12_middleSaid_55 fw_X12_358 cw_12 rfl (by decide) rfl rfl ?_
    obtain ⟨ho2, hr2⟩ := ht1
    refine hb_idiv (pc := 58) dX12_middleSaid_58 ho2 ?_
    exact hb_iret (pc := 59) dX12_middleSaid_59 rfl hr2
  · have ht1 := h.2 c1
    refine hb_iinc (pc := 28) (v := x1 + (1 : Int32)) (ls1 := [some (hb_r 12 0 0), some (hb_i (x1 + (1 : Int32))), some (hb_i x2)]) dX12_middleSaid_28 rfl rfl (by decide) rfl ?_
    refine hb_iload_n (pc := 31) (i := 2) dX12_middleSaid_31 rfl rfl ?_
    refine hb_aload_n (pc := 32) (i := 0) dX12_middleSaid_32 rfl rfl ?_
    refine hb_getR (pc := 33) (g1 := 0) dX12_middleSaid_33 fw_X12_97 cw_12 rfl (by decide) rfl (by decide) rfl ?_
    refine hb_iload_n (pc := 36) (i := 1) dX12_middleSaid_36 rfl rfl ?_
    obtain ⟨ho3, hr3⟩ := ht1
    refine hb_ialdx (pc := 37) (x := hb_aI w 12 28 0 (x1 + (1 : Int32)).toNatClampNeg) dX12_middleSaid_37 rfl (by decide) ho3 rfl ?_
    refine hb_iadd (pc := 38) dX12_middleSaid_38 ?_
    refine hb_istore_n (pc := 39) (i := 2) (ls1 := [some (hb_r 12 0 0), some (hb_i (x1 + (1 : Int32))), some (hb_i (x2 + (hb_aI w 12 28 0 (x1 + (1 : Int32)).toNatClampNeg)))]) dX12_middleSaid_39 rfl (by decide) rfl ?_
    refine hb_goto (pc := 40) (tgt := 18) dX12_middleSaid_40 (by decide) ?_
    exact hr3
theorem dX12_middleGift_0 : decode cX12_middleGift 0 = .ok (.aload_n 0, 1) := by decide +kernel
theorem dX12_middleGift_1 : decode cX12_middleGift 1 = .ok (.getfield 361, 3) := by decide +kernel
theorem dX12_middleGift_4 : decode cX12_middleGift 4 = .ok (.ifCond .ne 5, 3) := by decide +kernel
theorem dX12_middleGift_7 : decode cX12_middleGift 7 = .ok (.iconst (-1), 1) := by decide +kernel
theorem dX12_middleGift_8 : decode cX12_middleGift 8 = .ok (.ireturn, 1) := by decide +kernel
theorem dX12_middleGift_9 : decode cX12_middleGift 9 = .ok (.iconst 0, 1) := by decide +kernel
theorem dX12_middleGift_10 : decode cX12_middleGift 10 = .ok (.istore_n 1, 1) := by decide +kernel
theorem dX12_middleGift_11 : decode cX12_middleGift 11 = .ok (.aload_n 0, 1) := by decide +kernel
theorem dX12_middleGift_12 : decode cX12_middleGift 12 = .ok (.getfield 103, 3) := by decide +kernel
theorem dX12_middleGift_15 : decode cX12_middleGift 15 = .ok (.iconst 0, 1) := by decide +kernel
theorem dX12_middleGift_16 : decode cX12_middleGift 16 = .ok (.iaload, 1) := by decide +kernel
theorem dX12_middleGift_17 : decode cX12_middleGift 17 = .ok (.istore_n 2, 1) := by decide +kernel
theorem dX12_middleGift_18 : decode cX12_middleGift 18 = .ok (.iload_n 2, 1) := by decide +kernel
theorem dX12_middleGift_19 : decode cX12_middleGift 19 = .ok (.aload_n 0, 1) := by decide +kernel
theorem dX12_middleGift_20 : decode cX12_middleGift 20 = .ok (.getfield 361, 3) := by decide +kernel
theorem dX12_middleGift_23 : decode cX12_middleGift 23 = .ok (.iconst 2, 1) := by decide +kernel
theorem dX12_middleGift_24 : decode cX12_middleGift 24 = .ok (.idiv, 1) := by decide +kernel
theorem dX12_middleGift_25 : decode cX12_middleGift 25 = .ok (.if_icmp .gt 18, 3) := by decide +kernel
theorem dX12_middleGift_28 : decode cX12_middleGift 28 = .ok (.iinc 1 1, 3) := by decide +kernel
theorem dX12_middleGift_31 : decode cX12_middleGift 31 = .ok (.iload_n 2, 1) := by decide +kernel
theorem dX12_middleGift_32 : decode cX12_middleGift 32 = .ok (.aload_n 0, 1) := by decide +kernel
theorem dX12_middleGift_33 : decode cX12_middleGift 33 = .ok (.getfield 103, 3) := by decide +kernel
theorem dX12_middleGift_36 : decode cX12_middleGift 36 = .ok (.iload_n 1, 1) := by decide +kernel
theorem dX12_middleGift_37 : decode cX12_middleGift 37 = .ok (.iaload, 1) := by decide +kernel
theorem dX12_middleGift_38 : decode cX12_middleGift 38 = .ok (.iadd, 1) := by decide +kernel
theorem dX12_middleGift_39 : decode cX12_middleGift 39 = .ok (.istore_n 2, 1) := by decide +kernel
theorem dX12_middleGift_40 : decode cX12_middleGift 40 = .ok (.goto (-22), 3) := by decide +kernel
theorem dX12_middleGift_43 : decode cX12_middleGift 43 = .ok (.iload_n 1, 1) := by decide +kernel
theorem dX12_middleGift_44 : decode cX12_middleGift 44 = .ok (.ireturn, 1) := by decide +kernel
set_option maxRecDepth 20000 in
theorem bk_X12_middleGift_0 {d : Nat} {w : hb_W} {Q : Option hb_V → hb_W → Prop} (h : ((¬ (hb_fI w 12 40 0) = 0) → hb_R yX12_middleGift cX12_middleGift 3 (some .int) d 18 [some (hb_r 12 0 0), some (hb_i (0 : Int32)), some (hb_i (hb_aI w 12 30 0 (0 : Int32).toNatClampNeg))] [] w Q) ∧ (((hb_fI w 12 40 0) = 0) → Q (some (hb_i (-1 : Int32))) w)) : hb_R yX12_middleGift cX12_middleGift 3 (some .int) d 0 [some (hb_r 12 0 0), none, none] [] w Q := by
  refine hb_aload_n (pc := 0) (i := 0) dX12_middleGift_0 rfl rfl ?_
  refine hb_getIx (pc := 1) (x := hb_fI w 12 40 0) dX12_middleGift_1 fw_X12_361 cw_12 rfl (by decide) rfl rfl ?_
  refine hb_if_ne (pc := 4) (tgt := 9) dX12_middleGift_4 (by decide) (fun c1 => ?_) (fun c1 => ?_)
  · have ht1 := h.1 c1
    refine hb_iconst (pc := 9) (v := 0) dX12_middleGift_9 (by decide) ?_
    refine hb_istore_n (pc := 10) (i := 1) (ls1 := [some (hb_r 12 0 0), some (hb_i (0 : Int32)), none]) dX12_middleGift_10 rfl (by decide) rfl ?_
    refine hb_aload_n (pc := 11) (i := 0) dX12_middleGift_11 rfl rfl ?_
    refine hb_getR (pc := 12) (g1 := 0) dX12_middleGift_12 fw_X12_103 cw_12 rfl (by decide) rfl (by decide) rfl ?_
    refine hb_iconst (pc := 15) (v := 0) dX12_middleGift_15 (by decide) ?_
    refine hb_ialdx (pc := 16) (x := hb_aI w 12 30 0 (0 : Int32).toNatClampNeg) dX12_middleGift_16 (n := 100) rfl (by decide) (by unfold vp_in; decide) rfl ?_
    refine hb_istore_n (pc := 17) (i := 2) (ls1 := [some (hb_r 12 0 0), some (hb_i (0 : Int32)), some (hb_i (hb_aI w 12 30 0 (0 : Int32).toNatClampNeg))]) dX12_middleGift_17 rfl (by decide) rfl ?_
    exact ht1
  · have ht1 := h.2 c1
    refine hb_iconst (pc := 7) (v := -1) dX12_middleGift_7 (by decide) ?_
    exact hb_iret (pc := 8) dX12_middleGift_8 rfl ht1
set_option maxRecDepth 20000 in
theorem bk_X12_middleGift_18 {d : Nat} {w : hb_W} {Q : Option hb_V → hb_W → Prop} {x1 : Int32} {x2 : Int32} (h : ((((hb_fI w 12 40 0) / (2 : Int32)) < x2) → Q (some (hb_i x1)) w) ∧ ((¬ ((hb_fI w 12 40 0) / (2 : Int32)) < x2) → vp_in (x1 + (1 : Int32)) 100 ∧ (hb_R yX12_middleGift cX12_middleGift 3 (some .int) d 18 [some (hb_r 12 0 0), some (hb_i (x1 + (1 : Int32))), some (hb_i (x2 + (hb_aI w 12 30 0 (x1 + (1 : Int32)).toNatClampNeg)))] [] w Q))) : hb_R yX12_middleGift cX12_middleGift 3 (some .int) d 18 [some (hb_r 12 0 0), some (hb_i x1), some (hb_i x2)] [] w Q := by
  refine hb_iload_n (pc := 18) (i := 2) dX12_middleGift_18 rfl rfl ?_
  refine hb_aload_n (pc := 19) (i := 0) dX12_middleGift_19 rfl rfl ?_
  refine hb_getIx (pc := 20) (x := hb_fI w 12 40 0) dX12_middleGift_20 fw_X12_361 cw_12 rfl (by decide) rfl rfl ?_
  refine hb_iconst (pc := 23) (v := 2) dX12_middleGift_23 (by decide) ?_
  refine hb_idiv (pc := 24) dX12_middleGift_24 (by decide) ?_
  refine hb_icmp_gt (pc := 25) (tgt := 43) dX12_middleGift_25 (by decide) (fun c1 => ?_) (fun c1 => ?_)
  · have ht1 := h.1 c1
    refine hb_iload_n (pc := 43) (i := 1) dX12_middleGift_43 rfl rfl ?_
    exact hb_iret (pc := 44) dX12_middleGift_44 rfl ht1
  · have ht1 := h.2 c1
    refine hb_iinc (pc := 28) (v := x1 + (1 : Int32)) (ls1 := [some (hb_r 12 0 0), some (hb_i (x1 + (1 : Int32))), some (hb_i x2)]) dX12_middleGift_28 rfl rfl (by decide) rfl ?_
    refine hb_iload_n (pc := 31) (i := 2) dX12_middleGift_31 rfl rfl ?_
    refine hb_aload_n (pc := 32) (i := 0) dX12_middleGift_32 rfl rfl ?_
    refine hb_getR (pc := 33) (g1 := 0) dX12_middleGift_33 fw_X12_103 cw_12 rfl (by decide) rfl (by decide) rfl ?_
    refine hb_iload_n (pc := 36) (i := 1) dX12_middleGift_36 rfl rfl ?_
    obtain ⟨ho2, hr2⟩ := ht1
    refine hb_ialdx (pc := 37) (x := hb_aI w 12 30 0 (x1 + (1 : Int32)).toNatClampNeg) dX12_middleGift_37 rfl (by decide) ho2 rfl ?_
    refine hb_iadd (pc := 38) dX12_middleGift_38 ?_
    refine hb_istore_n (pc := 39) (i := 2) (ls1 := [some (hb_r 12 0 0), some (hb_i (x1 + (1 : Int32))), some (hb_i (x2 + (hb_aI w 12 30 0 (x1 + (1 : Int32)).toNatClampNeg)))]) dX12_middleGift_39 rfl (by decide) rfl ?_
    refine hb_goto (pc := 40) (tgt := 18) dX12_middleGift_40 (by decide) ?_
    exact hr2
theorem dX12_unlikeMany_0 : decode cX12_unlikeMany 0 = .ok (.iconst 0, 1) := by decide +kernel
theorem dX12_unlikeMany_1 : decode cX12_unlikeMany 1 = .ok (.istore_n 1, 1) := by decide +kernel
theorem dX12_unlikeMany_2 : decode cX12_unlikeMany 2 = .ok (.iconst 0, 1) := by decide +kernel
theorem dX12_unlikeMany_3 : decode cX12_unlikeMany 3 = .ok (.istore_n 2, 1) := by decide +kernel
theorem dX12_unlikeMany_4 : decode cX12_unlikeMany 4 = .ok (.iload_n 2, 1) := by decide +kernel
theorem dX12_unlikeMany_5 : decode cX12_unlikeMany 5 = .ok (.bipush 64, 2) := by decide +kernel
theorem dX12_unlikeMany_7 : decode cX12_unlikeMany 7 = .ok (.if_icmp .ge 21, 3) := by decide +kernel
theorem dX12_unlikeMany_10 : decode cX12_unlikeMany 10 = .ok (.aload_n 0, 1) := by decide +kernel
theorem dX12_unlikeMany_11 : decode cX12_unlikeMany 11 = .ok (.getfield 75, 3) := by decide +kernel
theorem dX12_unlikeMany_14 : decode cX12_unlikeMany 14 = .ok (.iload_n 2, 1) := by decide +kernel
theorem dX12_unlikeMany_15 : decode cX12_unlikeMany 15 = .ok (.iaload, 1) := by decide +kernel
theorem dX12_unlikeMany_16 : decode cX12_unlikeMany 16 = .ok (.ifCond .le 6, 3) := by decide +kernel
theorem dX12_unlikeMany_19 : decode cX12_unlikeMany 19 = .ok (.iinc 1 1, 3) := by decide +kernel
theorem dX12_unlikeMany_22 : decode cX12_unlikeMany 22 = .ok (.iinc 2 1, 3) := by decide +kernel
theorem dX12_unlikeMany_25 : decode cX12_unlikeMany 25 = .ok (.goto (-21), 3) := by decide +kernel
theorem dX12_unlikeMany_28 : decode cX12_unlikeMany 28 = .ok (.iload_n 1, 1) := by decide +kernel
theorem dX12_unlikeMany_29 : decode cX12_unlikeMany 29 = .ok (.ireturn, 1) := by decide +kernel
set_option maxRecDepth 20000 in
theorem bk_X12_unlikeMany_0 {d : Nat} {w : hb_W} {Q : Option hb_V → hb_W → Prop} (h : hb_R yX12_unlikeMany cX12_unlikeMany 3 (some .int) d 4 [some (hb_r 12 0 0), some (hb_i (0 : Int32)), some (hb_i (0 : Int32))] [] w Q) : hb_R yX12_unlikeMany cX12_unlikeMany 3 (some .int) d 0 [some (hb_r 12 0 0), none, none] [] w Q := by
  refine hb_iconst (pc := 0) (v := 0) dX12_unlikeMany_0 (by decide) ?_
  refine hb_istore_n (pc := 1) (i := 1) (ls1 := [some (hb_r 12 0 0), some (hb_i (0 : Int32)), none]) dX12_unlikeMany_1 rfl (by decide) rfl ?_
  refine hb_iconst (pc := 2) (v := 0) dX12_unlikeMany_2 (by decide) ?_
  refine hb_istore_n (pc := 3) (i := 2) (ls1 := [some (hb_r 12 0 0), some (hb_i (0 : Int32)), some (hb_i (0 : Int32))]) dX12_unlikeMany_3 rfl (by decide) rfl ?_
  exact h
set_option maxRecDepth 20000 in
theorem bk_X12_unlikeMany_4 {d : Nat} {w : hb_W} {Q : Option hb_V → hb_W → Prop} {x1 : Int32} {x2 : Int32} (h : (((64 : Int32) ≤ x2) → Q (some (hb_i x1)) w) ∧ ((¬ (64 : Int32) ≤ x2) → vp_in x2 64 ∧ ((((hb_aI w 12 21 0 x2.toNatClampNeg) ≤ 0) → hb_R yX12_unlikeMany cX12_unlikeMany 3 (some .int) d 4 [some (hb_r 12 0 0), some (hb_i x1), some (hb_i (x2 + (1 : Int32)))] [] w Q) ∧ ((¬ (hb_aI w 12 21 0 x2.toNatClampNeg) ≤ 0) → hb_R yX12_unlikeMany cX12_unlikeMany 3 (some .int) d 4 [some (hb_r 12 0 0), some (hb_i (x1 + (1 : Int32))), some (hb_i (x2 + (1 : Int32)))] [] w Q)))) : hb_R yX12_unlikeMany cX12_unlikeMany 3 (some .int) d 4 [some (hb_r 12 0 0), some (hb_i x1), some (hb_i x2)] [] w Q := by
  refine hb_iload_n (pc := 4) (i := 2) dX12_unlikeMany_4 rfl rfl ?_
  refine hb_bipush (pc := 5) (v := 64) dX12_unlikeMany_5 (by decide) ?_
  refine hb_icmp_ge (pc := 7) (tgt := 28) dX12_unlikeMany_7 (by decide) (fun c1 => ?_) (fun c1 => ?_)
  · have ht1 := h.1 c1
    refine hb_iload_n (pc := 28) (i := 1) dX12_unlikeMany_28 rfl rfl ?_
    exact hb_iret (pc := 29) dX12_unlikeMany_29 rfl ht1
  · have ht1 := h.2 c1
    refine hb_aload_n (pc := 10) (i := 0) dX12_unlikeMany_10 rfl rfl ?_
    refine hb_getR (pc := 11) (g1 := 0) dX12_unlikeMany_11 fw_X12_75 cw_12 rfl (by decide) rfl (by decide) rfl ?_
    refine hb_iload_n (pc := 14) (i := 2) dX12_unlikeMany_14 rfl rfl ?_
    obtain ⟨ho2, hr2⟩ := ht1
    refine hb_ialdx (pc := 15) (x := hb_aI w 12 21 0 x2.toNatClampNeg) dX12_unlikeMany_15 rfl (by decide) ho2 rfl ?_
    refine hb_if_le (pc := 16) (tgt := 22) dX12_unlikeMany_16 (by decide) (fun c3 => ?_) (fun c3 => ?_)
    · have ht3 := hr2.1 c3
      refine hb_iinc (pc := 22) (v := x2 + (1 : Int32)) (ls1 := [some (hb_r 12 0 0), some (hb_i x1), some (hb_i (x2 + (1 : Int32)))]) dX12_unlikeMany_22 rfl rfl (by decide) rfl ?_
      refine hb_goto (pc := 25) (tgt := 4) dX12_unlikeMany_25 (by decide) ?_
      exact ht3
    · have ht3 := hr2.2 c3
      refine hb_iinc (pc := 19) (v := x1 + (1 : Int32)) (ls1 := [some (hb_r 12 0 0), some (hb_i (x1 + (1 : Int32))), some (hb_i x2)]) dX12_unlikeMany_19 rfl rfl (by decide) rfl ?_
      refine hb_iinc (pc := 22) (v := x2 + (1 : Int32)) (ls1 := [some (hb_r 12 0 0), some (hb_i (x1 + (1 : Int32))), some (hb_i (x2 + (1 : Int32)))]) dX12_unlikeMany_22 rfl rfl (by decide) rfl ?_
      refine hb_goto (pc := 25) (tgt := 4) dX12_unlikeMany_25 (by decide) ?_
      exact ht3
theorem dX12_oftenest_0 : decode cX12_oftenest 0 = .ok (.iconst (-1), 1) := by decide +kernel
theorem dX12_oftenest_1 : decode cX12_oftenest 1 = .ok (.istore_n 1, 1) := by decide +kernel
theorem dX12_oftenest_2 : decode cX12_oftenest 2 = .ok (.iconst 0, 1) := by decide +kernel
theorem dX12_oftenest_3 : decode cX12_oftenest 3 = .ok (.istore_n 2, 1) := by decide +kernel
theorem dX12_oftenest_4 : decode cX12_oftenest 4 = .ok (.iload_n 2, 1) := by decide +kernel
theorem dX12_oftenest_5 : decode cX12_oftenest 5 = .ok (.bipush 64, 2) := by decide +kernel
theorem dX12_oftenest_7 : decode cX12_oftenest 7 = .ok (.if_icmp .ge 35, 3) := by decide +kernel
theorem dX12_oftenest_10 : decode cX12_oftenest 10 = .ok (.aload_n 0, 1) := by decide +kernel
theorem dX12_oftenest_11 : decode cX12_oftenest 11 = .ok (.getfield 75, 3) := by decide +kernel
theorem dX12_oftenest_14 : decode cX12_oftenest 14 = .ok (.iload_n 2, 1) := by decide +kernel
theorem dX12_oftenest_15 : decode cX12_oftenest 15 = .ok (.iaload, 1) := by decide +kernel
theorem dX12_oftenest_16 : decode cX12_oftenest 16 = .ok (.iload_n 1, 1) := by decide +kernel
theorem dX12_oftenest_17 : decode cX12_oftenest 17 = .ok (.iconst (-1), 1) := by decide +kernel
theorem dX12_oftenest_18 : decode cX12_oftenest 18 = .ok (.if_icmp .ne 7, 3) := by decide +kernel
theorem dX12_oftenest_21 : decode cX12_oftenest 21 = .ok (.iconst 0, 1) := by decide +kernel
theorem dX12_oftenest_22 : decode cX12_oftenest 22 = .ok (.goto 9, 3) := by decide +kernel
theorem dX12_oftenest_25 : decode cX12_oftenest 25 = .ok (.aload_n 0, 1) := by decide +kernel
theorem dX12_oftenest_26 : decode cX12_oftenest 26 = .ok (.getfield 75, 3) := by decide +kernel
theorem dX12_oftenest_29 : decode cX12_oftenest 29 = .ok (.iload_n 1, 1) := by decide +kernel
theorem dX12_oftenest_30 : decode cX12_oftenest 30 = .ok (.iaload, 1) := by decide +kernel
theorem dX12_oftenest_31 : decode cX12_oftenest 31 = .ok (.if_icmp .le 5, 3) := by decide +kernel
theorem dX12_oftenest_34 : decode cX12_oftenest 34 = .ok (.iload_n 2, 1) := by decide +kernel
theorem dX12_oftenest_35 : decode cX12_oftenest 35 = .ok (.istore_n 1, 1) := by decide +kernel
theorem dX12_oftenest_36 : decode cX12_oftenest 36 = .ok (.iinc 2 1, 3) := by decide +kernel
theorem dX12_oftenest_39 : decode cX12_oftenest 39 = .ok (.goto (-35), 3) := by decide +kernel
theorem dX12_oftenest_42 : decode cX12_oftenest 42 = .ok (.iload_n 1, 1) := by decide +kernel
theorem dX12_oftenest_43 : decode cX12_oftenest 43 = .ok (.ireturn, 1) := by decide +kernel
set_option maxRecDepth 20000 in
theorem bk_X12_oftenest_0 {d : Nat} {w : hb_W} {Q : Option hb_V → hb_W → Prop} (h : hb_R yX12_oftenest cX12_oftenest 3 (some .int) d 4 [some (hb_r 12 0 0), some (hb_i (-1 : Int32)), some (hb_i (0 : Int32))] [] w Q) : hb_R yX12_oftenest cX12_oftenest 3 (some .int) d 0 [some (hb_r 12 0 0), none, none] [] w Q := by
  refine hb_iconst (pc := 0) (v := -1) dX12_oftenest_0 (by decide) ?_
  refine hb_istore_n (pc := 1) (i := 1) (ls1 := [some (hb_r 12 0 0), some (hb_i (-1 : Int32)), none]) dX12_oftenest_1 rfl (by decide) rfl ?_
  refine hb_iconst (pc := 2) (v := 0) dX12_oftenest_2 (by decide) ?_
  refine hb_istore_n (pc := 3) (i := 2) (ls1 := [some (hb_r 12 0 0), some (hb_i (-1 : Int32)), some (hb_i (0 : Int32))]) dX12_oftenest_3 rfl (by decide) rfl ?_
  exact h
set_option maxRecDepth 20000 in
theorem bk_X12_oftenest_4 {d : Nat} {w : hb_W} {Q : Option hb_V → hb_W → Prop} {x1 : Int32} {x2 : Int32} (h : (((64 : Int32) ≤ x2) → Q (some (hb_i x1)) w) ∧ ((¬ (64 : Int32) ≤ x2) → vp_in x2 64 ∧ (((¬ x1 = (-1 : Int32)) → vp_in x1 64 ∧ ((((hb_aI w 12 21 0 x2.toNatClampNeg) ≤ (hb_aI w 12 21 0 x1.toNatClampNeg)) → hb_R yX12_oftenest cX12_oftenest 3 (some .int) d 4 [some (hb_r 12 0 0), some (hb_i x1), some (hb_i (x2 + (1 : Int32)))] [] w Q) ∧ ((¬ (hb_aI w 12 21 0 x2.toNatClampNeg) ≤ (hb_aI w 12 21 0 x1.toNatClampNeg)) → hb_R yX12_oftenest cX12_oftenest 3 (some .int) d 4 [some (hb_r 12 0 0), some (hb_i x2), some (hb_i (x2 + (1 : Int32)))] [] w Q))) ∧ ((x1 = (-1 : Int32)) → (((hb_aI w 12 21 0 x2.toNatClampNeg) ≤ (0 : Int32)) → hb_R yX12_oftenest cX12_oftenest 3 (some .int) d 4 [some (hb_r 12 0 0), some (hb_i x1), some (hb_i (x2 + (1 : Int32)))] [] w Q) ∧ ((¬ (hb_aI w 12 21 0 x2.toNatClampNeg) ≤ (0 : Int32)) → hb_R yX12_oftenest cX12_oftenest 3 (some .int) d 4 [some (hb_r 12 0 0), some (hb_i x2), some (hb_i (x2 + (1 : Int32)))] [] w Q))))) : hb_R yX12_oftenest cX12_oftenest 3 (some .int) d 4 [some (hb_r 12 0 0), some (hb_i x1), some (hb_i x2)] [] w Q := by
  refine hb_iload_n (pc := 4) (i := 2) dX12_oftenest_4 rfl rfl ?_
  refine hb_bipush (pc := 5) (v := 64) dX12_oftenest_5 (by decide) ?_
  refine hb_icmp_ge (pc := 7) (tgt := 42) dX12_oftenest_7 (by decide) (fun c1 => ?_) (fun c1 => ?_)
  · have ht1 := h.1 c1
    refine hb_iload_n (pc := 42) (i := 1) dX12_oftenest_42 rfl rfl ?_
    exact hb_iret (pc := 43) dX12_oftenest_43 rfl ht1
  · have ht1 := h.2 c1
    refine hb_aload_n (pc := 10) (i := 0) dX12_oftenest_10 rfl rfl ?_
    refine hb_getR (pc := 11) (g1 := 0) dX12_oftenest_11 fw_X12_75 cw_12 rfl (by decide) rfl (by decide) rfl ?_
    refine hb_iload_n (pc := 14) (i := 2) dX12_oftenest_14 rfl rfl ?_
    obtain ⟨ho2, hr2⟩ := ht1
    refine hb_ialdx (pc := 15) (x := hb_aI w 12 21 0 x2.toNatClampNeg) dX12_oftenest_15 rfl (by decide) ho2 rfl ?_
    refine hb_iload_n (pc := 16) (i := 1) dX12_oftenest_16 rfl rfl ?_
    refine hb_iconst (pc := 17) (v := -1) dX12_oftenest_17 (by decide) ?_
    refine hb_icmp_ne (pc := 18) (tgt := 25) dX12_oftenest_18 (by decide) (fun c3 => ?_) (fun c3 => ?_)
    · have ht3 := hr2.1 c3
      refine hb_aload_n (pc := 25) (i := 0) dX12_oftenest_25 rfl rfl ?_
      refine hb_getR (pc := 26) (g1 := 0) dX12_oftenest_26 fw_X12_75 cw_12 rfl (by decide) rfl (by decide) rfl ?_
      refine hb_iload_n (pc := 29) (i := 1) dX12_oftenest_29 rfl rfl ?_
      obtain ⟨ho4, hr4⟩ := ht3
      refine hb_ialdx (pc := 30) (x := hb_aI w 12 21 0 x1.toNatClampNeg) dX12_oftenest_30 rfl (by decide) ho4 rfl ?_
      refine hb_icmp_le (pc := 31) (tgt := 36) dX12_oftenest_31 (by decide) (fun c5 => ?_) (fun c5 => ?_)
      · have ht5 := hr4.1 c5
        refine hb_iinc (pc := 36) (v := x2 + (1 : Int32)) (ls1 := [some (hb_r 12 0 0), some (hb_i x1), some (hb_i (x2 + (1 : Int32)))]) dX12_oftenest_36 rfl rfl (by decide) rfl ?_
        refine hb_goto (pc := 39) (tgt := 4) dX12_oftenest_39 (by decide) ?_
        exact ht5
      · have ht5 := hr4.2 c5
        refine hb_iload_n (pc := 34) (i := 2) dX12_oftenest_34 rfl rfl ?_
        refine hb_istore_n (pc := 35) (i := 1) (ls1 := [some (hb_r 12 0 0), some (hb_i x2), some (hb_i x2)]) dX12_oftenest_35 rfl (by decide) rfl ?_
        refine hb_iinc (pc := 36) (v := x2 + (1 : Int32)) (ls1 := [some (hb_r 12 0 0), some (hb_i x2), some (hb_i (x2 + (1 : Int32)))]) dX12_oftenest_36 rfl rfl (by decide) rfl ?_
        refine hb_goto (pc := 39) (tgt := 4) dX12_oftenest_39 (by decide) ?_
        exact ht5
    · have ht3 := hr2.2 c3
      refine hb_iconst (pc := 21) (v := 0) dX12_oftenest_21 (by decide) ?_
      refine hb_goto (pc := 22) (tgt := 31) dX12_oftenest_22 (by decide) ?_
      refine hb_icmp_le (pc := 31) (tgt := 36) dX12_oftenest_31 (by decide) (fun c6 => ?_) (fun c6 => ?_)
      · have ht6 := ht3.1 c6
        refine hb_iinc (pc := 36) (v := x2 + (1 : Int32)) (ls1 := [some (hb_r 12 0 0), some (hb_i x1), some (hb_i (x2 + (1 : Int32)))]) dX12_oftenest_36 rfl rfl (by decide) rfl ?_
        refine hb_goto (pc := 39) (tgt := 4) dX12_oftenest_39 (by decide) ?_
        exact ht6
      · have ht6 := ht3.2 c6
        refine hb_iload_n (pc := 34) (i := 2) dX12_oftenest_34 rfl rfl ?_
        refine hb_istore_n (pc := 35) (i := 1) (ls1 := [some (hb_r 12 0 0), some (hb_i x2), some (hb_i x2)]) dX12_oftenest_35 rfl (by decide) rfl ?_
        refine hb_iinc (pc := 36) (v := x2 + (1 : Int32)) (ls1 := [some (hb_r 12 0 0), some (hb_i x2), some (hb_i (x2 + (1 : Int32)))]) dX12_oftenest_36 rfl rfl (by decide) rfl ?_
        refine hb_goto (pc := 39) (tgt := 4) dX12_oftenest_39 (by decide) ?_
        exact ht6
