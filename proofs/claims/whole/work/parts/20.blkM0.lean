theorem dX12_isIn_0 : decode cX12_isIn 0 = .ok (.lload_n 0, 1) := by decide +kernel
theorem dX12_isIn_1 : decode cX12_isIn 1 = .ok (.lload_n 2, 1) := by decide +kernel
theorem dX12_isIn_2 : decode cX12_isIn 2 = .ok (.lcmp, 1) := by decide +kernel
theorem dX12_isIn_3 : decode cX12_isIn 3 = .ok (.ifCond .lt 14, 3) := by decide +kernel
theorem dX12_isIn_6 : decode cX12_isIn 6 = .ok (.lload_n 0, 1) := by decide +kernel
theorem dX12_isIn_7 : decode cX12_isIn 7 = .ok (.lload 4, 2) := by decide +kernel
theorem dX12_isIn_9 : decode cX12_isIn 9 = .ok (.lcmp, 1) := by decide +kernel
theorem dX12_isIn_10 : decode cX12_isIn 10 = .ok (.ifCond .gt 7, 3) := by decide +kernel
theorem dX12_isIn_13 : decode cX12_isIn 13 = .ok (.iconst 1, 1) := by decide +kernel
theorem dX12_isIn_14 : decode cX12_isIn 14 = .ok (.goto 4, 3) := by decide +kernel
theorem dX12_isIn_17 : decode cX12_isIn 17 = .ok (.iconst 0, 1) := by decide +kernel
theorem dX12_isIn_18 : decode cX12_isIn 18 = .ok (.ireturn, 1) := by decide +kernel
set_option maxRecDepth 20000 in
theorem bk_X12_isIn_0 {d : Nat} {w : hb_W} {Q : Option hb_V → hb_W → Prop} {l0 : Int64} {l2 : Int64} {l4 : Int64} (h : (((lg_cmp l0 l2) < 0) → Q (some (hb_i (0 : Int32))) w) ∧ ((¬ (lg_cmp l0 l2) < 0) → ((0 < (lg_cmp l0 l4)) → Q (some (hb_i (0 : Int32))) w) ∧ ((¬ 0 < (lg_cmp l0 l4)) → Q (some (hb_i (1 : Int32))) w))) : hb_R yX12_isIn cX12_isIn 6 (some .boolean) d 0 [some (hb_l l0), none, some (hb_l l2), none, some (hb_l l4), none] [] w Q := by
  refine hb_lload_n (pc := 0) (i := 0) dX12_isIn_0 rfl rfl ?_
  refine hb_lload_n (pc := 1) (i := 2) dX12_isIn_1 rfl rfl ?_
  refine hb_lcmp (pc := 2) dX12_isIn_2 ?_
  refine hb_if_lt (pc := 3) (tgt := 17) dX12_isIn_3 (by decide) (fun c1 => ?_) (fun c1 => ?_)
  · have ht1 := h.1 c1
    refine hb_iconst (pc := 17) (v := 0) dX12_isIn_17 (by decide) ?_
    exact hb_zret (pc := 18) dX12_isIn_18 rfl (Or.inl rfl) ht1
  · have ht1 := h.2 c1
    refine hb_lload_n (pc := 6) (i := 0) dX12_isIn_6 rfl rfl ?_
    refine hb_lload (pc := 7) dX12_isIn_7 rfl ?_
    refine hb_lcmp (pc := 9) dX12_isIn_9 ?_
    refine hb_if_gt (pc := 10) (tgt := 17) dX12_isIn_10 (by decide) (fun c2 => ?_) (fun c2 => ?_)
    · have ht2 := ht1.1 c2
      refine hb_iconst (pc := 17) (v := 0) dX12_isIn_17 (by decide) ?_
      exact hb_zret (pc := 18) dX12_isIn_18 rfl (Or.inl rfl) ht2
    · have ht2 := ht1.2 c2
      refine hb_iconst (pc := 13) (v := 1) dX12_isIn_13 (by decide) ?_
      refine hb_goto (pc := 14) (tgt := 18) dX12_isIn_14 (by decide) ?_
      exact hb_zret (pc := 18) dX12_isIn_18 rfl (Or.inr rfl) ht2
theorem dX12_feed_0 : decode cX12_feed 0 = .ok (.aload_n 0, 1) := by decide +kernel
theorem dX12_feed_1 : decode cX12_feed 1 = .ok (.getfield 192, 3) := by decide +kernel
theorem dX12_feed_4 : decode cX12_feed 4 = .ok (.bipush 20, 2) := by decide +kernel
theorem dX12_feed_6 : decode cX12_feed 6 = .ok (.iadd, 1) := by decide +kernel
theorem dX12_feed_7 : decode cX12_feed 7 = .ok (.sipush 1600, 3) := by decide +kernel
theorem dX12_feed_10 : decode cX12_feed 10 = .ok (.if_icmp .le 15, 3) := by decide +kernel
theorem dX12_feed_13 : decode cX12_feed 13 = .ok (.aload_n 0, 1) := by decide +kernel
theorem dX12_feed_14 : decode cX12_feed 14 = .ok (.getfield 17, 3) := by decide +kernel
theorem dX12_feed_17 : decode cX12_feed 17 = .ok (.iconst 0, 1) := by decide +kernel
theorem dX12_feed_18 : decode cX12_feed 18 = .ok (.dup2, 1) := by decide +kernel
theorem dX12_feed_19 : decode cX12_feed 19 = .ok (.iaload, 1) := by decide +kernel
theorem dX12_feed_20 : decode cX12_feed 20 = .ok (.iconst 1, 1) := by decide +kernel
theorem dX12_feed_21 : decode cX12_feed 21 = .ok (.iadd, 1) := by decide +kernel
theorem dX12_feed_22 : decode cX12_feed 22 = .ok (.iastore, 1) := by decide +kernel
theorem dX12_feed_23 : decode cX12_feed 23 = .ok (.iconst (-1), 1) := by decide +kernel
theorem dX12_feed_24 : decode cX12_feed 24 = .ok (.ireturn, 1) := by decide +kernel
theorem dX12_feed_25 : decode cX12_feed 25 = .ok (.iconst 0, 1) := by decide +kernel
theorem dX12_feed_26 : decode cX12_feed 26 = .ok (.istore 6, 2) := by decide +kernel
theorem dX12_feed_28 : decode cX12_feed 28 = .ok (.iload 6, 2) := by decide +kernel
theorem dX12_feed_30 : decode cX12_feed 30 = .ok (.bipush 20, 2) := by decide +kernel
theorem dX12_feed_32 : decode cX12_feed 32 = .ok (.if_icmp .ge 92, 3) := by decide +kernel
theorem dX12_feed_35 : decode cX12_feed 35 = .ok (.iload 6, 2) := by decide +kernel
theorem dX12_feed_37 : decode cX12_feed 37 = .ok (.iconst 4, 1) := by decide +kernel
theorem dX12_feed_38 : decode cX12_feed 38 = .ok (.if_icmp .ge 7, 3) := by decide +kernel
theorem dX12_feed_41 : decode cX12_feed 41 = .ok (.iload_n 1, 1) := by decide +kernel
theorem dX12_feed_42 : decode cX12_feed 42 = .ok (.goto 39, 3) := by decide +kernel
theorem dX12_feed_45 : decode cX12_feed 45 = .ok (.iload 6, 2) := by decide +kernel
theorem dX12_feed_47 : decode cX12_feed 47 = .ok (.bipush 8, 2) := by decide +kernel
theorem dX12_feed_49 : decode cX12_feed 49 = .ok (.if_icmp .ge 7, 3) := by decide +kernel
theorem dX12_feed_52 : decode cX12_feed 52 = .ok (.iload_n 2, 1) := by decide +kernel
theorem dX12_feed_53 : decode cX12_feed 53 = .ok (.goto 28, 3) := by decide +kernel
theorem dX12_feed_56 : decode cX12_feed 56 = .ok (.iload 6, 2) := by decide +kernel
theorem dX12_feed_58 : decode cX12_feed 58 = .ok (.bipush 12, 2) := by decide +kernel
theorem dX12_feed_60 : decode cX12_feed 60 = .ok (.if_icmp .ge 7, 3) := by decide +kernel
theorem dX12_feed_63 : decode cX12_feed 63 = .ok (.iload_n 3, 1) := by decide +kernel
theorem dX12_feed_64 : decode cX12_feed 64 = .ok (.goto 17, 3) := by decide +kernel
theorem dX12_feed_67 : decode cX12_feed 67 = .ok (.iload 6, 2) := by decide +kernel
theorem dX12_feed_69 : decode cX12_feed 69 = .ok (.bipush 16, 2) := by decide +kernel
theorem dX12_feed_71 : decode cX12_feed 71 = .ok (.if_icmp .ge 8, 3) := by decide +kernel
theorem dX12_feed_74 : decode cX12_feed 74 = .ok (.iload 4, 2) := by decide +kernel
theorem dX12_feed_76 : decode cX12_feed 76 = .ok (.goto 5, 3) := by decide +kernel
theorem dX12_feed_79 : decode cX12_feed 79 = .ok (.iload 5, 2) := by decide +kernel
theorem dX12_feed_81 : decode cX12_feed 81 = .ok (.istore 7, 2) := by decide +kernel
theorem dX12_feed_83 : decode cX12_feed 83 = .ok (.aload_n 0, 1) := by decide +kernel
theorem dX12_feed_84 : decode cX12_feed 84 = .ok (.getfield 7, 3) := by decide +kernel
theorem dX12_feed_87 : decode cX12_feed 87 = .ok (.aload_n 0, 1) := by decide +kernel
theorem dX12_feed_88 : decode cX12_feed 88 = .ok (.getfield 192, 3) := by decide +kernel
theorem dX12_feed_91 : decode cX12_feed 91 = .ok (.iload 7, 2) := by decide +kernel
theorem dX12_feed_93 : decode cX12_feed 93 = .ok (.bipush 8, 2) := by decide +kernel
theorem dX12_feed_95 : decode cX12_feed 95 = .ok (.iconst 3, 1) := by decide +kernel
theorem dX12_feed_96 : decode cX12_feed 96 = .ok (.iload 6, 2) := by decide +kernel
theorem dX12_feed_98 : decode cX12_feed 98 = .ok (.iconst 4, 1) := by decide +kernel
theorem dX12_feed_99 : decode cX12_feed 99 = .ok (.irem, 1) := by decide +kernel
theorem dX12_feed_100 : decode cX12_feed 100 = .ok (.isub, 1) := by decide +kernel
theorem dX12_feed_101 : decode cX12_feed 101 = .ok (.imul, 1) := by decide +kernel
theorem dX12_feed_102 : decode cX12_feed 102 = .ok (.ishr, 1) := by decide +kernel
theorem dX12_feed_103 : decode cX12_feed 103 = .ok (.sipush 255, 3) := by decide +kernel
theorem dX12_feed_106 : decode cX12_feed 106 = .ok (.iand, 1) := by decide +kernel
theorem dX12_feed_107 : decode cX12_feed 107 = .ok (.iastore, 1) := by decide +kernel
theorem dX12_feed_108 : decode cX12_feed 108 = .ok (.aload_n 0, 1) := by decide +kernel
theorem dX12_feed_109 : decode cX12_feed 109 = .ok (.dup, 1) := by decide +kernel
theorem dX12_feed_110 : decode cX12_feed 110 = .ok (.getfield 192, 3) := by decide +kernel
theorem dX12_feed_113 : decode cX12_feed 113 = .ok (.iconst 1, 1) := by decide +kernel
theorem dX12_feed_114 : decode cX12_feed 114 = .ok (.iadd, 1) := by decide +kernel
theorem dX12_feed_115 : decode cX12_feed 115 = .ok (.putfield 192, 3) := by decide +kernel
theorem dX12_feed_118 : decode cX12_feed 118 = .ok (.iinc 6 1, 3) := by decide +kernel
theorem dX12_feed_121 : decode cX12_feed 121 = .ok (.goto (-93), 3) := by decide +kernel
theorem dX12_feed_124 : decode cX12_feed 124 = .ok (.aload_n 0, 1) := by decide +kernel
theorem dX12_feed_125 : decode cX12_feed 125 = .ok (.getfield 192, 3) := by decide +kernel
theorem dX12_feed_128 : decode cX12_feed 128 = .ok (.ireturn, 1) := by decide +kernel
set_option maxRecDepth 20000 in
theorem bk_X12_feed_0 {d : Nat} {w : hb_W} {Q : Option hb_V → hb_W → Prop} {x1 : Int32} {x2 : Int32} {x3 : Int32} {x4 : Int32} {x5 : Int32} (h : ((((hb_fI w 12 1 0) + (20 : Int32)) ≤ (1600 : Int32)) → hb_R yX12_feed cX12_feed 8 (some .int) d 28 [some (hb_r 12 0 0), some (hb_i x1), some (hb_i x2), some (hb_i x3), some (hb_i x4), some (hb_i x5), some (hb_i (0 : Int32)), none] [] w Q) ∧ ((¬ ((hb_fI w 12 1 0) + (20 : Int32)) ≤ (1600 : Int32)) → Q (some (hb_i (-1 : Int32))) (hb_sI w 12 2 0 (upd (hb_aI w 12 2 0) (0 : Int32).toNatClampNeg ((hb_aI w 12 2 0 (0 : Int32).toNatClampNeg) + (1 : Int32)))))) : hb_R yX12_feed cX12_feed 8 (some .int) d 0 [some (hb_r 12 0 0), some (hb_i x1), some (hb_i x2), some (hb_i x3), some (hb_i x4), some (hb_i x5), none, none] [] w Q := by
  refine hb_aload_n (pc := 0) (i := 0) dX12_feed_0 rfl rfl ?_
  refine hb_getIx (pc := 1) (x := hb_fI w 12 1 0) dX12_feed_1 fw_X12_192 cw_12 rfl (by decide) rfl rfl ?_
  refine hb_bipush (pc := 4) (v := 20) dX12_feed_4 (by decide) ?_
  refine hb_iadd (pc := 6) dX12_feed_6 ?_
  refine hb_sipush (pc := 7) (v := 1600) dX12_feed_7 (by decide) ?_
  refine hb_icmp_le (pc := 10) (tgt := 25) dX12_feed_10 (by decide) (fun c1 => ?_) (fun c1 => ?_)
  · have ht1 := h.1 c1
    refine hb_iconst (pc := 25) (v := 0) dX12_feed_25 (by decide) ?_
    refine hb_istore (pc := 26) (i := 6) (ls1 := [some (hb_r 12 0 0), some (hb_i x1), some (hb_i x2), some (hb_i x3), some (hb_i x4), some (hb_i x5), some (hb_i (0 : Int32)), none]) dX12_feed_26 (by decide) rfl ?_
    exact ht1
  · have ht1 := h.2 c1
    refine hb_aload_n (pc := 13) (i := 0) dX12_feed_13 rfl rfl ?_
    refine hb_getR (pc := 14) (g1 := 0) dX12_feed_14 fw_X12_17 cw_12 rfl (by decide) rfl (by decide) rfl ?_
    refine hb_iconst (pc := 17) (v := 0) dX12_feed_17 (by decide) ?_
    refine hb_dup2ir (pc := 18) dX12_feed_18 ?_
    refine hb_ialdx (pc := 19) (x := hb_aI w 12 2 0 (0 : Int32).toNatClampNeg) dX12_feed_19 (n := 6) rfl (by decide) (by unfold vp_in; decide) rfl ?_
    refine hb_iconst (pc := 20) (v := 1) dX12_feed_20 (by decide) ?_
    refine hb_iadd (pc := 21) dX12_feed_21 ?_
    refine hb_iastx (pc := 22) (f := upd (hb_aI w 12 2 0) (0 : Int32).toNatClampNeg ((hb_aI w 12 2 0 (0 : Int32).toNatClampNeg) + (1 : Int32))) dX12_feed_22 (n := 6) rfl (by decide) (by unfold vp_in; decide) rfl ?_
    refine hb_iconst (pc := 23) (v := -1) dX12_feed_23 (by decide) ?_
    exact hb_iret (pc := 24) dX12_feed_24 rfl ht1
set_option maxRecDepth 20000 in
theorem bk_X12_feed_28 {d : Nat} {w : hb_W} {Q : Option hb_V → hb_W → Prop} {x1 : Int32} {x2 : Int32} {x3 : Int32} {x4 : Int32} {x5 : Int32} {x6 : Int32} (h : (((20 : Int32) ≤ x6) → Q (some (hb_i (hb_fI w 12 1 0))) w) ∧ ((¬ (20 : Int32) ≤ x6) → (((4 : Int32) ≤ x6) → (((8 : Int32) ≤ x6) → (((12 : Int32) ≤ x6) → (((16 : Int32) ≤ x6) → vp_in (hb_fI w 12 1 0) 1600 ∧ (hb_R yX12_feed cX12_feed 8 (some .int) d 28 [some (hb_r 12 0 0), some (hb_i x1), some (hb_i x2), some (hb_i x3), some (hb_i x4), some (hb_i x5), some (hb_i (x6 + (1 : Int32))), some (hb_i x5)] [] (hb_pI (hb_sI w 12 1 0 (upd (hb_aI w 12 1 0) (hb_fI w 12 1 0).toNatClampNeg ((x5 >>> (((8 : Int32) * ((3 : Int32) - (x6 - x6 / (4 : Int32) * (4 : Int32)))) &&& 31)) &&& (255 : Int32)))) 12 1 0 ((hb_fI w 12 1 0) + (1 : Int32))) Q)) ∧ ((¬ (16 : Int32) ≤ x6) → vp_in (hb_fI w 12 1 0) 1600 ∧ (hb_R yX12_feed cX12_feed 8 (some .int) d 28 [some (hb_r 12 0 0), some (hb_i x1), some (hb_i x2), some (hb_i x3), some (hb_i x4), some (hb_i x5), some (hb_i (x6 + (1 : Int32))), some (hb_i x4)] [] (hb_pI (hb_sI w 12 1 0 (upd (hb_aI w 12 1 0) (hb_fI w 12 1 0).toNatClampNeg ((x4 >>> (((8 : Int32) * ((3 : Int32) - (x6 - x6 / (4 : Int32) * (4 : Int32)))) &&& 31)) &&& (255 : Int32)))) 12 1 0 ((hb_fI w 12 1 0) + (1 : Int32))) Q))) ∧ ((¬ (12 : Int32) ≤ x6) → vp_in (hb_fI w 12 1 0) 1600 ∧ (hb_R yX12_feed cX12_feed 8 (some .int) d 28 [some (hb_r 12 0 0), some (hb_i x1), some (hb_i x2), some (hb_i x3), some (hb_i x4), some (hb_i x5), some (hb_i (x6 + (1 : Int32))), some (hb_i x3)] [] (hb_pI (hb_sI w 12 1 0 (upd (hb_aI w 12 1 0) (hb_fI w 12 1 0).toNatClampNeg ((x3 >>> (((8 : Int32) * ((3 : Int32) - (x6 - x6 / (4 : Int32) * (4 : Int32)))) &&& 31)) &&& (255 : Int32)))) 12 1 0 ((hb_fI w 12 1 0) + (1 : Int32))) Q))) ∧ ((¬ (8 : Int32) ≤ x6) → vp_in (hb_fI w 12 1 0) 1600 ∧ (hb_R yX12_feed cX12_feed 8 (some .int) d 28 [some (hb_r 12 0 0), some (hb_i x1), some (hb_i x2), some (hb_i x3), some (hb_i x4), some (hb_i x5), some (hb_i (x6 + (1 : Int32))), some (hb_i x2)] [] (hb_pI (hb_sI w 12 1 0 (upd (hb_aI w 12 1 0) (hb_fI w 12 1 0).toNatClampNeg ((x2 >>> (((8 : Int32) * ((3 : Int32) - (x6 - x6 / (4 : Int32) * (4 : Int32)))) &&& 31)) &&& (255 : Int32)))) 12 1 0 ((hb_fI w 12 1 0) + (1 : Int32))) Q))) ∧ ((¬ (4 : Int32) ≤ x6) → vp_in (hb_fI w 12 1 0) 1600 ∧ (hb_R yX12_feed cX12_feed 8 (some .int) d 28 [some (hb_r 12 0 0), some (hb_i x1), some (hb_i x2), some (hb_i x3), some (hb_i x4), some (hb_i x5), some (hb_i (x6 + (1 : Int32))), some (hb_i x1)] [] (hb_pI (hb_sI w 12 1 0 (upd (hb_aI w 12 1 0) (hb_fI w 12 1 0).toNatClampNeg ((x1 >>> (((8 : Int32) * ((3 : Int32) - (x6 - x6 / (4 : Int32) * (4 : Int32)))) &&& 31)) &&& (255 : Int32)))) 12 1 0 ((hb_fI w 12 1 0) + (1 : Int32))) Q)))) : hb_R yX12_feed cX12_feed 8 (some .int) d 28 [some (hb_r 12 0 0), some (hb_i x1), some (hb_i x2), some (hb_i x3), some (hb_i x4), some (hb_i x5), some (hb_i x6), none] [] w Q := by
  refine hb_iload (pc := 28) dX12_feed_28 rfl ?_
  refine hb_bipush (pc := 30) (v := 20) dX12_feed_30 (by decide) ?_
  refine hb_icmp_ge (pc := 32) (tgt := 124) dX12_feed_32 (by decide) (fun c1 => ?_) (fun c1 => ?_)
  · have ht1 := h.1 c1
    refine hb_aload_n (pc := 124) (i := 0) dX12_feed_124 rfl rfl ?_
    refine hb_getIx (pc := 125) (x := hb_fI w 12 1 0) dX12_feed_125 fw_X12_192 cw_12 rfl (by decide) rfl rfl ?_
    exact hb_iret (pc := 128) dX12_feed_128 rfl ht1
  · have ht1 := h.2 c1
    refine hb_iload (pc := 35) dX12_feed_35 rfl ?_
    refine hb_iconst (pc := 37) (v := 4) dX12_feed_37 (by decide) ?_
    refine hb_icmp_ge (pc := 38) (tgt := 45) dX12_feed_38 (by decide) (fun c2 => ?_) (fun c2 => ?_)
    · have ht2 := ht1.1 c2
      refine hb_iload (pc := 45) dX12_feed_45 rfl ?_
      refine hb_bipush (pc := 47) (v := 8) dX12_feed_47 (by decide) ?_
      refine hb_icmp_ge (pc := 49) (tgt := 56) dX12_feed_49 (by decide) (fun c3 => ?_) (fun c3 => ?_)
      · have ht3 := ht2.1 c3
        refine hb_iload (pc := 56) dX12_feed_56 rfl ?_
        refine hb_bipush (pc := 58) (v := 12) dX12_feed_58 (by decide) ?_
        refine hb_icmp_ge (pc := 60) (tgt := 67) dX12_feed_60 (by decide) (fun c4 => ?_) (fun c4 => ?_)
        · have ht4 := ht3.1 c4
          refine hb_iload (pc := 67) dX12_feed_67 rfl ?_
          refine hb_bipush (pc := 69) (v := 16) dX12_feed_69 (by decide) ?_
          refine hb_icmp_ge (pc := 71) (tgt := 79) dX12_feed_71 (by decide) (fun c5 => ?_) (fun c5 => ?_)
          · have ht5 := ht4.1 c5
            refine hb_iload (pc := 79) dX12_feed_79 rfl ?_
            refine hb_istore (pc := 81) (i := 7) (ls1 := [some (hb_r 12 0 0), some (hb_i x1), some (hb_i x2), some (hb_i x3), some (hb_i x4), some (hb_i x5), some (hb_i x6), some (hb_i x5)]) dX12_feed_81 (by decide) rfl ?_
            refine hb_aload_n (pc := 83) (i := 0) dX12_feed_83 rfl rfl ?_
            refine hb_getR (pc := 84) (g1 := 0) dX12_feed_84 fw_X12_7 cw_12 rfl (by decide) rfl (by decide) rfl ?_
            refine hb_aload_n (pc := 87) (i := 0) dX12_feed_87 rfl rfl ?_
            refine hb_getIx (pc := 88) (x := hb_fI w 12 1 0) dX12_feed_88 fw_X12_192 cw_12 rfl (by decide) rfl rfl ?_
            refine hb_iload (pc := 91) dX12_feed_91 rfl ?_
            refine hb_bipush (pc := 93) (v := 8) dX12_feed_93 (by decide) ?_
            refine hb_iconst (pc := 95) (v := 3) dX12_feed_95 (by decide) ?_
            refine hb_iload (pc := 96) dX12_feed_96 rfl ?_
            refine hb_iconst (pc := 98) (v := 4) dX12_feed_98 (by decide) ?_
            refine hb_irem (pc := 99) dX12_feed_99 (by decide) ?_
            refine hb_isub (pc := 100) dX12_feed_100 ?_
            refine hb_imul (pc := 101) dX12_feed_101 ?_
            refine hb_ishr (pc := 102) dX12_feed_102 ?_
            refine hb_sipush (pc := 103) (v := 255) dX12_feed_103 (by decide) ?_
            refine hb_iand (pc := 106) dX12_feed_106 ?_
            obtain ⟨ho6, hr6⟩ := ht5
            refine hb_iastx (pc := 107) (f := upd (hb_aI w 12 1 0) (hb_fI w 12 1 0).toNatClampNeg ((x5 >>> (((8 : Int32) * ((3 : Int32) - (x6 - x6 / (4 : Int32) * (4 : Int32)))) &&& 31)) &&& (255 : Int32))) dX12_feed_107 rfl (by decide) ho6 rfl ?_
            refine hb_aload_n (pc := 108) (i := 0) dX12_feed_108 rfl rfl ?_
            refine hb_dupr (pc := 109) dX12_feed_109 ?_
            refine hb_getIx (pc := 110) (x := hb_fI w 12 1 0) dX12_feed_110 fw_X12_192 cw_12 rfl (by decide) rfl rfl ?_
            refine hb_iconst (pc := 113) (v := 1) dX12_feed_113 (by decide) ?_
            refine hb_iadd (pc := 114) dX12_feed_114 ?_
            refine hb_putI (pc := 115) dX12_feed_115 fw_X12_192 cw_12 pw_12_1 rfl (by decide) rfl rfl rfl ?_
            refine hb_iinc (pc := 118) (v := x6 + (1 : Int32)) (ls1 := [some (hb_r 12 0 0), some (hb_i x1), some (hb_i x2), some (hb_i x3), some (hb_i x4), some (hb_i x5), some (hb_i (x6 + (1 : Int32))), some (hb_i x5)]) dX12_feed_118 rfl rfl (by decide) rfl ?_
            refine hb_goto (pc := 121) (tgt := 28) dX12_feed_121 (by decide) ?_
            exact hr6
          · have ht5 := ht4.2 c5
            refine hb_iload (pc := 74) dX12_feed_74 rfl ?_
            refine hb_goto (pc := 76) (tgt := 81) dX12_feed_76 (by decide) ?_
            refine hb_istore (pc := 81) (i := 7) (ls1 := [some (hb_r 12 0 0), some (hb_i x1), some (hb_i x2), some (hb_i x3), some (hb_i x4), some (hb_i x5), some (hb_i x6), some (hb_i x4)]) dX12_feed_81 (by decide) rfl ?_
            refine hb_aload_n (pc := 83) (i := 0) dX12_feed_83 rfl rfl ?_
            refine hb_getR (pc := 84) (g1 := 0) dX12_feed_84 fw_X12_7 cw_12 rfl (by decide) rfl (by decide) rfl ?_
            refine hb_aload_n (pc := 87) (i := 0) dX12_feed_87 rfl rfl ?_
            refine hb_getIx (pc := 88) (x := hb_fI w 12 1 0) dX12_feed_88 fw_X12_192 cw_12 rfl (by decide) rfl rfl ?_
            refine hb_iload (pc := 91) dX12_feed_91 rfl ?_
            refine hb_bipush (pc := 93) (v := 8) dX12_feed_93 (by decide) ?_
            refine hb_iconst (pc := 95) (v := 3) dX12_feed_95 (by decide) ?_
            refine hb_iload (pc := 96) dX12_feed_96 rfl ?_
            refine hb_iconst (pc := 98) (v := 4) dX12_feed_98 (by decide) ?_
            refine hb_irem (pc := 99) dX12_feed_99 (by decide) ?_
            refine hb_isub (pc := 100) dX12_feed_100 ?_
            refine hb_imul (pc := 101) dX12_feed_101 ?_
            refine hb_ishr (pc := 102) dX12_feed_102 ?_
            refine hb_sipush (pc := 103) (v := 255) dX12_feed_103 (by decide) ?_
            refine hb_iand (pc := 106) dX12_feed_106 ?_
            obtain ⟨ho7, hr7⟩ := ht5
            refine hb_iastx (pc := 107) (f := upd (hb_aI w 12 1 0) (hb_fI w 12 1 0).toNatClampNeg ((x4 >>> (((8 : Int32) * ((3 : Int32) - (x6 - x6 / (4 : Int32) * (4 : Int32)))) &&& 31)) &&& (255 : Int32))) dX12_feed_107 rfl (by decide) ho7 rfl ?_
            refine hb_aload_n (pc := 108) (i := 0) dX12_feed_108 rfl rfl ?_
            refine hb_dupr (pc := 109) dX12_feed_109 ?_
            refine hb_getIx (pc := 110) (x := hb_fI w 12 1 0) dX12_feed_110 fw_X12_192 cw_12 rfl (by decide) rfl rfl ?_
            refine hb_iconst (pc := 113) (v := 1) dX12_feed_113 (by decide) ?_
            refine hb_iadd (pc := 114) dX12_feed_114 ?_
            refine hb_putI (pc := 115) dX12_feed_115 fw_X12_192 cw_12 pw_12_1 rfl (by decide) rfl rfl rfl ?_
            refine hb_iinc (pc := 118) (v := x6 + (1 : Int32)) (ls1 := [some (hb_r 12 0 0), some (hb_i x1), some (hb_i x2), some (hb_i x3), some (hb_i x4), some (hb_i x5), some (hb_i (x6 + (1 : Int32))), some (hb_i x4)]) dX12_feed_118 rfl rfl (by decide) rfl ?_
            refine hb_goto (pc := 121) (tgt := 28) dX12_feed_121 (by decide) ?_
            exact hr7
        · have ht4 := ht3.2 c4
          refine hb_iload_n (pc := 63) (i := 3) dX12_feed_63 rfl rfl ?_
          refine hb_goto (pc := 64) (tgt := 81) dX12_feed_64 (by decide) ?_
          refine hb_istore (pc := 81) (i := 7) (ls1 := [some (hb_r 12 0 0), some (hb_i x1), some (hb_i x2), some (hb_i x3), some (hb_i x4), some (hb_i x5), some (hb_i x6), some (hb_i x3)]) dX12_feed_81 (by decide) rfl ?_
          refine hb_aload_n (pc := 83) (i := 0) dX12_feed_83 rfl rfl ?_
          refine hb_getR (pc := 84) (g1 := 0) dX12_feed_84 fw_X12_7 cw_12 rfl (by decide) rfl (by decide) rfl ?_
          refine hb_aload_n (pc := 87) (i := 0) dX12_feed_87 rfl rfl ?_
          refine hb_getIx (pc := 88) (x := hb_fI w 12 1 0) dX12_feed_88 fw_X12_192 cw_12 rfl (by decide) rfl rfl ?_
          refine hb_iload (pc := 91) dX12_feed_91 rfl ?_
          refine hb_bipush (pc := 93) (v := 8) dX12_feed_93 (by decide) ?_
          refine hb_iconst (pc := 95) (v := 3) dX12_feed_95 (by decide) ?_
          refine hb_iload (pc := 96) dX12_feed_96 rfl ?_
          refine hb_iconst (pc := 98) (v := 4) dX12_feed_98 (by decide) ?_
          refine hb_irem (pc := 99) dX12_feed_99 (by decide) ?_
          refine hb_isub (pc := 100) dX12_feed_100 ?_
          refine hb_imul (pc := 101) dX12_feed_101 ?_
          refine hb_ishr (pc := 102) dX12_feed_102 ?_
          refine hb_sipush (pc := 103) (v := 255) dX12_feed_103 (by decide) ?_
          refine hb_iand (pc := 106) dX12_feed_106 ?_
          obtain ⟨ho8, hr8⟩ := ht4
          refine hb_iastx (pc := 107) (f := upd (hb_aI w 12 1 0) (hb_fI w 12 1 0).toNatClampNeg ((x3 >>> (((8 : Int32) * ((3 : Int32) - (x6 - x6 / (4 : Int32) * (4 : Int32)))) &&& 31)) &&& (255 : Int32))) dX12_feed_107 rfl (by decide) ho8 rfl ?_
          refine hb_aload_n (pc := 108) (i := 0) dX12_feed_108 rfl rfl ?_
          refine hb_dupr (pc := 109) dX12_feed_109 ?_
          refine hb_getIx (pc := 110) (x := hb_fI w 12 1 0) dX12_feed_110 fw_X12_192 cw_12 rfl (by decide) rfl rfl ?_
          refine hb_iconst (pc := 113) (v := 1) dX12_feed_113 (by decide) ?_
          refine hb_iadd (pc := 114) dX12_feed_114 ?_
          refine hb_putI (pc := 115) dX12_feed_115 fw_X12_192 cw_12 pw_12_1 rfl (by decide) rfl rfl rfl ?_
          refine hb_iinc (pc := 118) (v := x6 + (1 : Int32)) (ls1 := [some (hb_r 12 0 0), some (hb_i x1), some (hb_i x2), some (hb_i x3), some (hb_i x4), some (hb_i x5), some (hb_i (x6 + (1 : Int32))), some (hb_i x3)]) dX12_feed_118 rfl rfl (by decide) rfl ?_
          refine hb_goto (pc := 121) (tgt := 28) dX12_feed_121 (by decide) ?_
          exact hr8
      · have ht3 := ht2.2 c3
        refine hb_iload_n (pc := 52) (i := 2) dX12_feed_52 rfl rfl ?_
        refine hb_goto (pc := 53) (tgt := 81) dX12_feed_53 (by decide) ?_
        refine hb_istore (pc := 81) (i := 7) (ls1 := [some (hb_r 12 0 0), some (hb_i x1), some (hb_i x2), some (hb_i x3), some (hb_i x4), some (hb_i x5), some (hb_i x6), some (hb_i x2)]) dX12_feed_81 (by decide) rfl ?_
        refine hb_aload_n (pc := 83) (i := 0) dX12_feed_83 rfl rfl ?_
        refine hb_getR (pc := 84) (g1 := 0) dX12_feed_84 fw_X12_7 cw_12 rfl (by decide) rfl (by decide) rfl ?_
        refine hb_aload_n (pc := 87) (i := 0) dX12_feed_87 rfl rfl ?_
        refine hb_getIx (pc := 88) (x := hb_fI w 12 1 0) dX12_feed_88 fw_X12_192 cw_12 rfl (by decide) rfl rfl ?_
        refine hb_iload (pc := 91) dX12_feed_91 rfl ?_
        refine hb_bipush (pc := 93) (v := 8) dX12_feed_93 (by decide) ?_
        refine hb_iconst (pc := 95) (v := 3) dX12_feed_95 (by decide) ?_
        refine hb_iload (pc := 96) dX12_feed_96 rfl ?_
        refine hb_iconst (pc := 98) (v := 4) dX12_feed_98 (by decide) ?_
        refine hb_irem (pc := 99) dX12_feed_99 (by decide) ?_
        refine hb_isub (pc := 100) dX12_feed_100 ?_
        refine hb_imul (pc := 101) dX12_feed_101 ?_
        refine hb_ishr (pc := 102) dX12_feed_102 ?_
        refine hb_sipush (pc := 103) (v := 255) dX12_feed_103 (by decide) ?_
        refine hb_iand (pc := 106) dX12_feed_106 ?_
        obtain ⟨ho9, hr9⟩ := ht3
        refine hb_iastx (pc := 107) (f := upd (hb_aI w 12 1 0) (hb_fI w 12 1 0).toNatClampNeg ((x2 >>> (((8 : Int32) * ((3 : Int32) - (x6 - x6 / (4 : Int32) * (4 : Int32)))) &&& 31)) &&& (255 : Int32))) dX12_feed_107 rfl (by decide) ho9 rfl ?_
        refine hb_aload_n (pc := 108) (i := 0) dX12_feed_108 rfl rfl ?_
        refine hb_dupr (pc := 109) dX12_feed_109 ?_
        refine hb_getIx (pc := 110) (x := hb_fI w 12 1 0) dX12_feed_110 fw_X12_192 cw_12 rfl (by decide) rfl rfl ?_
        refine hb_iconst (pc := 113) (v := 1) dX12_feed_113 (by decide) ?_
        refine hb_iadd (pc := 114) dX12_feed_114 ?_
        refine hb_putI (pc := 115) dX12_feed_115 fw_X12_192 cw_12 pw_12_1 rfl (by decide) rfl rfl rfl ?_
        refine hb_iinc (pc := 118) (v := x6 + (1 : Int32)) (ls1 := [some (hb_r 12 0 0), some (hb_i x1), some (hb_i x2), some (hb_i x3), some (hb_i x4), some (hb_i x5), some (hb_i (x6 + (1 : Int32))), some (hb_i x2)]) dX12_feed_118 rfl rfl (by decide) rfl ?_
        refine hb_goto (pc := 121) (tgt := 28) dX12_feed_121 (by decide) ?_
        exact hr9
    · have ht2 := ht1.2 c2
      refine hb_iload_n (pc := 41) (i := 1) dX12_feed_41 rfl rfl ?_
      refine hb_goto (pc := 42) (tgt := 81) dX12_feed_42 (by decide) ?_
      refine hb_istore (pc := 81) (i := 7) (ls1 := [some (hb_r 12 0 0), some (hb_i x1), some (hb_i x2), some (hb_i x3), some (hb_i x4), some (hb_i x5), some (hb_i x6), some (hb_i x1)]) dX12_feed_81 (by decide) rfl ?_
      refine hb_aload_n (pc := 83) (i := 0) dX12_feed_83 rfl rfl ?_
      refine hb_getR (pc := 84) (g1 := 0) dX12_feed_84 fw_X12_7 cw_12 rfl (by decide) rfl (by decide) rfl ?_
      refine hb_aload_n (pc := 87) (i := 0) dX12_feed_87 rfl rfl ?_
      refine hb_getIx (pc := 88) (x := hb_fI w 12 1 0) dX12_feed_88 fw_X12_192 cw_12 rfl (by decide) rfl rfl ?_
      refine hb_iload (pc := 91) dX12_feed_91 rfl ?_
      refine hb_bipush (pc := 93) (v := 8) dX12_feed_93 (by decide) ?_
      refine hb_iconst (pc := 95) (v := 3) dX12_feed_95 (by decide) ?_
      refine hb_iload (pc := 96) dX12_feed_96 rfl ?_
      refine hb_iconst (pc := 98) (v := 4) dX12_feed_98 (by decide) ?_
      refine hb_irem (pc := 99) dX12_feed_99 (by decide) ?_
      refine hb_isub (pc := 100) dX12_feed_100 ?_
      refine hb_imul (pc := 101) dX12_feed_101 ?_
      refine hb_ishr (pc := 102) dX12_feed_102 ?_
      refine hb_sipush (pc := 103) (v := 255) dX12_feed_103 (by decide) ?_
      refine hb_iand (pc := 106) dX12_feed_106 ?_
      obtain ⟨ho10, hr10⟩ := ht2
      refine hb_iastx (pc := 107) (f := upd (hb_aI w 12 1 0) (hb_fI w 12 1 0).toNatClampNeg ((x1 >>> (((8 : Int32) * ((3 : Int32) - (x6 - x6 / (4 : Int32) * (4 : Int32)))) &&& 31)) &&& (255 : Int32))) dX12_feed_107 rfl (by decide) ho10 rfl ?_
      refine hb_aload_n (pc := 108) (i := 0) dX12_feed_108 rfl rfl ?_
      refine hb_dupr (pc := 109) dX12_feed_109 ?_
      refine hb_getIx (pc := 110) (x := hb_fI w 12 1 0) dX12_feed_110 fw_X12_192 cw_12 rfl (by decide) rfl rfl ?_
      refine hb_iconst (pc := 113) (v := 1) dX12_feed_113 (by decide) ?_
      refine hb_iadd (pc := 114) dX12_feed_114 ?_
      refine hb_putI (pc := 115) dX12_feed_115 fw_X12_192 cw_12 pw_12_1 rfl (by decide) rfl rfl rfl ?_
      refine hb_iinc (pc := 118) (v := x6 + (1 : Int32)) (ls1 := [some (hb_r 12 0 0), some (hb_i x1), some (hb_i x2), some (hb_i x3), some (hb_i x4), some (hb_i x5), some (hb_i (x6 + (1 : Int32))), some (hb_i x1)]) dX12_feed_118 rfl rfl (by decide) rfl ?_
      refine hb_goto (pc := 121) (tgt := 28) dX12_feed_121 (by decide) ?_
      exact hr10
theorem dX12_end_0 : decode cX12_end 0 = .ok (.iload_n 1, 1) := by decide +kernel
theorem dX12_end_1 : decode cX12_end 1 = .ok (.ifCond .lt 11, 3) := by decide +kernel
theorem dX12_end_4 : decode cX12_end 4 = .ok (.iload_n 1, 1) := by decide +kernel
theorem dX12_end_5 : decode cX12_end 5 = .ok (.aload_n 0, 1) := by decide +kernel
theorem dX12_end_6 : decode cX12_end 6 = .ok (.getfield 192, 3) := by decide +kernel
theorem dX12_end_9 : decode cX12_end 9 = .ok (.if_icmp .le 15, 3) := by decide +kernel
theorem dX12_end_12 : decode cX12_end 12 = .ok (.aload_n 0, 1) := by decide +kernel
theorem dX12_end_13 : decode cX12_end 13 = .ok (.getfield 17, 3) := by decide +kernel
theorem dX12_end_16 : decode cX12_end 16 = .ok (.iconst 0, 1) := by decide +kernel
theorem dX12_end_17 : decode cX12_end 17 = .ok (.dup2, 1) := by decide +kernel
theorem dX12_end_18 : decode cX12_end 18 = .ok (.iaload, 1) := by decide +kernel
theorem dX12_end_19 : decode cX12_end 19 = .ok (.iconst 1, 1) := by decide +kernel
theorem dX12_end_20 : decode cX12_end 20 = .ok (.iadd, 1) := by decide +kernel
theorem dX12_end_21 : decode cX12_end 21 = .ok (.iastore, 1) := by decide +kernel
theorem dX12_end_22 : decode cX12_end 22 = .ok (.iconst 0, 1) := by decide +kernel
theorem dX12_end_23 : decode cX12_end 23 = .ok (.ireturn, 1) := by decide +kernel
theorem dX12_end_24 : decode cX12_end 24 = .ok (.aload_n 0, 1) := by decide +kernel
theorem dX12_end_25 : decode cX12_end 25 = .ok (.iload_n 1, 1) := by decide +kernel
theorem dX12_end_26 : decode cX12_end 26 = .ok (.putfield 192, 3) := by decide +kernel
theorem dX12_end_29 : decode cX12_end 29 = .ok (.iconst 1, 1) := by decide +kernel
theorem dX12_end_30 : decode cX12_end 30 = .ok (.ireturn, 1) := by decide +kernel
set_option maxRecDepth 20000 in
theorem bk_X12_end_0 {d : Nat} {w : hb_W} {Q : Option hb_V → hb_W → Prop} {x1 : Int32} (h : ((x1 < 0) → Q (some (hb_i (0 : Int32))) (hb_sI w 12 2 0 (upd (hb_aI w 12 2 0) (0 : Int32).toNatClampNeg ((hb_aI w 12 2 0 (0 : Int32).toNatClampNeg) + (1 : Int32))))) ∧ ((¬ x1 < 0) → ((x1 ≤ (hb_fI w 12 1 0)) → Q (some (hb_i (1 : Int32))) (hb_pI w 12 1 0 x1)) ∧ ((¬ x1 ≤ (hb_fI w 12 1 0)) → Q (some (hb_i (0 : Int32))) (hb_sI w 12 2 0 (upd (hb_aI w 12 2 0) (0 : Int32).toNatClampNeg ((hb_aI w 12 2 0 (0 : Int32).toNatClampNeg) + (1 : Int32))))))) : hb_R yX12_end cX12_end 2 (some .boolean) d 0 [some (hb_r 12 0 0), some (hb_i x1)] [] w Q := by
  refine hb_iload_n (pc := 0) (i := 1) dX12_end_0 rfl rfl ?_
  refine hb_if_lt (pc := 1) (tgt := 12) dX12_end_1 (by decide) (fun c1 => ?_) (fun c1 => ?_)
  · have ht1 := h.1 c1
    refine hb_aload_n (pc := 12) (i := 0) dX12_end_12 rfl rfl ?_
    refine hb_getR (pc := 13) (g1 := 0) dX12_end_13 fw_X12_17 cw_12 rfl (by decide) rfl (by decide) rfl ?_
    refine hb_iconst (pc := 16) (v := 0) dX12_end_16 (by decide) ?_
    refine hb_dup2ir (pc := 17) dX12_end_17 ?_
    refine hb_ialdx (pc := 18) (x := hb_aI w 12 2 0 (0 : Int32).toNatClampNeg) dX12_end_18 (n := 6) rfl (by decide) (by unfold vp_in; decide) rfl ?_
    refine hb_iconst (pc := 19) (v := 1) dX12_end_19 (by decide) ?_
    refine hb_iadd (pc := 20) dX12_end_20 ?_
    refine hb_iastx (pc := 21) (f := upd (hb_aI w 12 2 0) (0 : Int32).toNatClampNeg ((hb_aI w 12 2 0 (0 : Int32).toNatClampNeg) + (1 : Int32))) dX12_end_21 (n := 6) rfl (by decide) (by unfold vp_in; decide) rfl ?_
    refine hb_iconst (pc := 22) (v := 0) dX12_end_22 (by decide) ?_
    exact hb_zret (pc := 23) dX12_end_23 rfl (Or.inl rfl) ht1
  · have ht1 := h.2 c1
    refine hb_iload_n (pc := 4) (i := 1) dX12_end_4 rfl rfl ?_
    refine hb_aload_n (pc := 5) (i := 0) dX12_end_5 rfl rfl ?_
    refine hb_getIx (pc := 6) (x := hb_fI w 12 1 0) dX12_end_6 fw_X12_192 cw_12 rfl (by decide) rfl rfl ?_
    refine hb_icmp_le (pc := 9) (tgt := 24) dX12_end_9 (by decide) (fun c2 => ?_) (fun c2 => ?_)
    · have ht2 := ht1.1 c2
      refine hb_aload_n (pc := 24) (i := 0) dX12_end_24 rfl rfl ?_
      refine hb_iload_n (pc := 25) (i := 1) dX12_end_25 rfl rfl ?_
      refine hb_putI (pc := 26) dX12_end_26 fw_X12_192 cw_12 pw_12_1 rfl (by decide) rfl rfl rfl ?_
      refine hb_iconst (pc := 29) (v := 1) dX12_end_29 (by decide) ?_
      exact hb_zret (pc := 30) dX12_end_30 rfl (Or.inr rfl) ht2
    · have ht2 := ht1.2 c2
      refine hb_aload_n (pc := 12) (i := 0) dX12_end_12 rfl rfl ?_
      refine hb_getR (pc := 13) (g1 := 0) dX12_end_13 fw_X12_17 cw_12 rfl (by decide) rfl (by decide) rfl ?_
      refine hb_iconst (pc := 16) (v := 0) dX12_end_16 (by decide) ?_
      refine hb_dup2ir (pc := 17) dX12_end_17 ?_
      refine hb_ialdx (pc := 18) (x := hb_aI w 12 2 0 (0 : Int32).toNatClampNeg) dX12_end_18 (n := 6) rfl (by decide) (by unfold vp_in; decide) rfl ?_
      refine hb_iconst (pc := 19) (v := 1) dX12_end_19 (by decide) ?_
      refine hb_iadd (pc := 20) dX12_end_20 ?_
      refine hb_iastx (pc := 21) (f := upd (hb_aI w 12 2 0) (0 : Int32).toNatClampNeg ((hb_aI w 12 2 0 (0 : Int32).toNatClampNeg) + (1 : Int32))) dX12_end_21 (n := 6) rfl (by decide) (by unfold vp_in; decide) rfl ?_
      refine hb_iconst (pc := 22) (v := 0) dX12_end_22 (by decide) ?_
      exact hb_zret (pc := 23) dX12_end_23 rfl (Or.inl rfl) ht2
theorem dX12_fail_0 : decode cX12_fail 0 = .ok (.aload_n 0, 1) := by decide +kernel
theorem dX12_fail_1 : decode cX12_fail 1 = .ok (.getfield 195, 3) := by decide +kernel
theorem dX12_fail_4 : decode cX12_fail 4 = .ok (.ifCond .eq 4, 3) := by decide +kernel
theorem dX12_fail_7 : decode cX12_fail 7 = .ok (.return_, 1) := by decide +kernel
theorem dX12_fail_8 : decode cX12_fail 8 = .ok (.aload_n 0, 1) := by decide +kernel
theorem dX12_fail_9 : decode cX12_fail 9 = .ok (.iload_n 1, 1) := by decide +kernel
theorem dX12_fail_10 : decode cX12_fail 10 = .ok (.putfield 195, 3) := by decide +kernel
theorem dX12_fail_13 : decode cX12_fail 13 = .ok (.aload_n 0, 1) := by decide +kernel
theorem dX12_fail_14 : decode cX12_fail 14 = .ok (.iload_n 2, 1) := by decide +kernel
theorem dX12_fail_15 : decode cX12_fail 15 = .ok (.putfield 198, 3) := by decide +kernel
theorem dX12_fail_18 : decode cX12_fail 18 = .ok (.return_, 1) := by decide +kernel
set_option maxRecDepth 20000 in
theorem bk_X12_fail_0 {d : Nat} {w : hb_W} {Q : Option hb_V → hb_W → Prop} {x1 : Int32} {x2 : Int32} (h : (((hb_fI w 12 5 0) = 0) → Q none (hb_pI (hb_pI w 12 5 0 x1) 12 6 0 x2)) ∧ ((¬ (hb_fI w 12 5 0) = 0) → Q none w)) : hb_R yX12_fail cX12_fail 3 none d 0 [some (hb_r 12 0 0), some (hb_i x1), some (hb_i x2)] [] w Q := by
  refine hb_aload_n (pc := 0) (i := 0) dX12_fail_0 rfl rfl ?_
  refine hb_getIx (pc := 1) (x := hb_fI w 12 5 0) dX12_fail_1 fw_X12_195 cw_12 rfl (by decide) rfl rfl ?_
  refine hb_if_eq (pc := 4) (tgt := 8) dX12_fail_4 (by decide) (fun c1 => ?_) (fun c1 => ?_)
  · have ht1 := h.1 c1
    refine hb_aload_n (pc := 8) (i := 0) dX12_fail_8 rfl rfl ?_
    refine hb_iload_n (pc := 9) (i := 1) dX12_fail_9 rfl rfl ?_
    refine hb_putI (pc := 10) dX12_fail_10 fw_X12_195 cw_12 pw_12_5 rfl (by decide) rfl rfl rfl ?_
    refine hb_aload_n (pc := 13) (i := 0) dX12_fail_13 rfl rfl ?_
    refine hb_iload_n (pc := 14) (i := 2) dX12_fail_14 rfl rfl ?_
    refine hb_putI (pc := 15) dX12_fail_15 fw_X12_198 cw_12 pw_12_6 rfl (by decide) rfl rfl rfl ?_
    exact hb_vret (pc := 18) dX12_fail_18 rfl ht1
  · have ht1 := h.2 c1
    exact hb_vret (pc := 7) dX12_fail_7 rfl ht1
theorem dX12_isLetter_0 : decode cX12_isLetter 0 = .ok (.iload_n 0, 1) := by decide +kernel
theorem dX12_isLetter_1 : decode cX12_isLetter 1 = .ok (.bipush 97, 2) := by decide +kernel
theorem dX12_isLetter_3 : decode cX12_isLetter 3 = .ok (.if_icmp .lt 13, 3) := by decide +kernel
theorem dX12_isLetter_6 : decode cX12_isLetter 6 = .ok (.iload_n 0, 1) := by decide +kernel
theorem dX12_isLetter_7 : decode cX12_isLetter 7 = .ok (.bipush 122, 2) := by decide +kernel
theorem dX12_isLetter_9 : decode cX12_isLetter 9 = .ok (.if_icmp .gt 7, 3) := by decide +kernel
theorem dX12_isLetter_12 : decode cX12_isLetter 12 = .ok (.iconst 1, 1) := by decide +kernel
theorem dX12_isLetter_13 : decode cX12_isLetter 13 = .ok (.goto 4, 3) := by decide +kernel
theorem dX12_isLetter_16 : decode cX12_isLetter 16 = .ok (.iconst 0, 1) := by decide +kernel
theorem dX12_isLetter_17 : decode cX12_isLetter 17 = .ok (.ireturn, 1) := by decide +kernel
set_option maxRecDepth 20000 in
theorem bk_X12_isLetter_0 {d : Nat} {w : hb_W} {Q : Option hb_V → hb_W → Prop} {x0 : Int32} (h : ((x0 < (97 : Int32)) → Q (some (hb_i (0 : Int32))) w) ∧ ((¬ x0 < (97 : Int32)) → (((122 : Int32) < x0) → Q (some (hb_i (0 : Int32))) w) ∧ ((¬ (122 : Int32) < x0) → Q (some (hb_i (1 : Int32))) w))) : hb_R yX12_isLetter cX12_isLetter 1 (some .boolean) d 0 [some (hb_i x0)] [] w Q := by
  refine hb_iload_n (pc := 0) (i := 0) dX12_isLetter_0 rfl rfl ?_
  refine hb_bipush (pc := 1) (v := 97) dX12_isLetter_1 (by decide) ?_
  refine hb_icmp_lt (pc := 3) (tgt := 16) dX12_isLetter_3 (by decide) (fun c1 => ?_) (fun c1 => ?_)
  · have ht1 := h.1 c1
    refine hb_iconst (pc := 16) (v := 0) dX12_isLetter_16 (by decide) ?_
    exact hb_zret (pc := 17) dX12_isLetter_17 rfl (Or.inl rfl) ht1
  · have ht1 := h.2 c1
    refine hb_iload_n (pc := 6) (i := 0) dX12_isLetter_6 rfl rfl ?_
    refine hb_bipush (pc := 7) (v := 122) dX12_isLetter_7 (by decide) ?_
    refine hb_icmp_gt (pc := 9) (tgt := 16) dX12_isLetter_9 (by decide) (fun c2 => ?_) (fun c2 => ?_)
    · have ht2 := ht1.1 c2
      refine hb_iconst (pc := 16) (v := 0) dX12_isLetter_16 (by decide) ?_
      exact hb_zret (pc := 17) dX12_isLetter_17 rfl (Or.inl rfl) ht2
    · have ht2 := ht1.2 c2
      refine hb_iconst (pc := 12) (v := 1) dX12_isLetter_12 (by decide) ?_
      refine hb_goto (pc := 13) (tgt := 17) dX12_isLetter_13 (by decide) ?_
      exact hb_zret (pc := 17) dX12_isLetter_17 rfl (Or.inr rfl) ht2
theorem dX12_isDigit_0 : decode cX12_isDigit 0 = .ok (.iload_n 0, 1) := by decide +kernel
theorem dX12_isDigit_1 : decode cX12_isDigit 1 = .ok (.bipush 48, 2) := by decide +kernel
theorem dX12_isDigit_3 : decode cX12_isDigit 3 = .ok (.if_icmp .lt 13, 3) := by decide +kernel
theorem dX12_isDigit_6 : decode cX12_isDigit 6 = .ok (.iload_n 0, 1) := by decide +kernel
theorem dX12_isDigit_7 : decode cX12_isDigit 7 = .ok (.bipush 57, 2) := by decide +kernel
theorem dX12_isDigit_9 : decode cX12_isDigit 9 = .ok (.if_icmp .gt 7, 3) := by decide +kernel
theorem dX12_isDigit_12 : decode cX12_isDigit 12 = .ok (.iconst 1, 1) := by decide +kernel
theorem dX12_isDigit_13 : decode cX12_isDigit 13 = .ok (.goto 4, 3) := by decide +kernel
theorem dX12_isDigit_16 : decode cX12_isDigit 16 = .ok (.iconst 0, 1) := by decide +kernel
theorem dX12_isDigit_17 : decode cX12_isDigit 17 = .ok (.ireturn, 1) := by decide +kernel
set_option maxRecDepth 20000 in
theorem bk_X12_isDigit_0 {d : Nat} {w : hb_W} {Q : Option hb_V → hb_W → Prop} {x0 : Int32} (h : ((x0 < (48 : Int32)) → Q (some (hb_i (0 : Int32))) w) ∧ ((¬ x0 < (48 : Int32)) → (((57 : Int32) < x0) → Q (some (hb_i (0 : Int32))) w) ∧ ((¬ (57 : Int32) < x0) → Q (some (hb_i (1 : Int32))) w))) : hb_R yX12_isDigit cX12_isDigit 1 (some .boolean) d 0 [some (hb_i x0)] [] w Q := by
  refine hb_iload_n (pc := 0) (i := 0) dX12_isDigit_0 rfl rfl ?_
  refine hb_bipush (pc := 1) (v := 48) dX12_isDigit_1 (by decide) ?_
  refine hb_icmp_lt (pc := 3) (tgt := 16) dX12_isDigit_3 (by decide) (fun c1 => ?_) (fun c1 => ?_)
  · have ht1 := h.1 c1
    refine hb_iconst (pc := 16) (v := 0) dX12_isDigit_16 (by decide) ?_
    exact hb_zret (pc := 17) dX12_isDigit_17 rfl (Or.inl rfl) ht1
  · have ht1 := h.2 c1
    refine hb_iload_n (pc := 6) (i := 0) dX12_isDigit_6 rfl rfl ?_
    refine hb_bipush (pc := 7) (v := 57) dX12_isDigit_7 (by decide) ?_
    refine hb_icmp_gt (pc := 9) (tgt := 16) dX12_isDigit_9 (by decide) (fun c2 => ?_) (fun c2 => ?_)
    · have ht2 := ht1.1 c2
      refine hb_iconst (pc := 16) (v := 0) dX12_isDigit_16 (by decide) ?_
      exact hb_zret (pc := 17) dX12_isDigit_17 rfl (Or.inl rfl) ht2
    · have ht2 := ht1.2 c2
      refine hb_iconst (pc := 12) (v := 1) dX12_isDigit_12 (by decide) ?_
      refine hb_goto (pc := 13) (tgt := 17) dX12_isDigit_13 (by decide) ?_
      exact hb_zret (pc := 17) dX12_isDigit_17 rfl (Or.inr rfl) ht2
theorem dX12_look_0 : decode cX12_look 0 = .ok (.aload_n 0, 1) := by decide +kernel
theorem dX12_look_1 : decode cX12_look 1 = .ok (.getfield 201, 3) := by decide +kernel
theorem dX12_look_4 : decode cX12_look 4 = .ok (.aload_n 0, 1) := by decide +kernel
theorem dX12_look_5 : decode cX12_look 5 = .ok (.getfield 204, 3) := by decide +kernel
theorem dX12_look_8 : decode cX12_look 8 = .ok (.if_icmp .ge 44, 3) := by decide +kernel
theorem dX12_look_11 : decode cX12_look 11 = .ok (.aload_n 0, 1) := by decide +kernel
theorem dX12_look_12 : decode cX12_look 12 = .ok (.getfield 7, 3) := by decide +kernel
theorem dX12_look_15 : decode cX12_look 15 = .ok (.aload_n 0, 1) := by decide +kernel
theorem dX12_look_16 : decode cX12_look 16 = .ok (.getfield 201, 3) := by decide +kernel
theorem dX12_look_19 : decode cX12_look 19 = .ok (.iaload, 1) := by decide +kernel
theorem dX12_look_20 : decode cX12_look 20 = .ok (.bipush 10, 2) := by decide +kernel
theorem dX12_look_22 : decode cX12_look 22 = .ok (.if_icmp .eq 17, 3) := by decide +kernel
theorem dX12_look_25 : decode cX12_look 25 = .ok (.aload_n 0, 1) := by decide +kernel
theorem dX12_look_26 : decode cX12_look 26 = .ok (.getfield 7, 3) := by decide +kernel
theorem dX12_look_29 : decode cX12_look 29 = .ok (.aload_n 0, 1) := by decide +kernel
theorem dX12_look_30 : decode cX12_look 30 = .ok (.getfield 201, 3) := by decide +kernel
theorem dX12_look_33 : decode cX12_look 33 = .ok (.iaload, 1) := by decide +kernel
theorem dX12_look_34 : decode cX12_look 34 = .ok (.bipush 32, 2) := by decide +kernel
theorem dX12_look_36 : decode cX12_look 36 = .ok (.if_icmp .ne 16, 3) := by decide +kernel
theorem dX12_look_39 : decode cX12_look 39 = .ok (.aload_n 0, 1) := by decide +kernel
theorem dX12_look_40 : decode cX12_look 40 = .ok (.dup, 1) := by decide +kernel
theorem dX12_look_41 : decode cX12_look 41 = .ok (.getfield 201, 3) := by decide +kernel
theorem dX12_look_44 : decode cX12_look 44 = .ok (.iconst 1, 1) := by decide +kernel
theorem dX12_look_45 : decode cX12_look 45 = .ok (.iadd, 1) := by decide +kernel
theorem dX12_look_46 : decode cX12_look 46 = .ok (.putfield 201, 3) := by decide +kernel
theorem dX12_look_49 : decode cX12_look 49 = .ok (.goto (-49), 3) := by decide +kernel
theorem dX12_look_52 : decode cX12_look 52 = .ok (.aload_n 0, 1) := by decide +kernel
theorem dX12_look_53 : decode cX12_look 53 = .ok (.getfield 201, 3) := by decide +kernel
theorem dX12_look_56 : decode cX12_look 56 = .ok (.aload_n 0, 1) := by decide +kernel
theorem dX12_look_57 : decode cX12_look 57 = .ok (.getfield 204, 3) := by decide +kernel
theorem dX12_look_60 : decode cX12_look 60 = .ok (.if_icmp .ge 15, 3) := by decide +kernel
theorem dX12_look_63 : decode cX12_look 63 = .ok (.aload_n 0, 1) := by decide +kernel
theorem dX12_look_64 : decode cX12_look 64 = .ok (.getfield 7, 3) := by decide +kernel
theorem dX12_look_67 : decode cX12_look 67 = .ok (.aload_n 0, 1) := by decide +kernel
theorem dX12_look_68 : decode cX12_look 68 = .ok (.getfield 201, 3) := by decide +kernel
theorem dX12_look_71 : decode cX12_look 71 = .ok (.iaload, 1) := by decide +kernel
theorem dX12_look_72 : decode cX12_look 72 = .ok (.goto 4, 3) := by decide +kernel
theorem dX12_look_75 : decode cX12_look 75 = .ok (.iconst (-1), 1) := by decide +kernel
theorem dX12_look_76 : decode cX12_look 76 = .ok (.ireturn, 1) := by decide +kernel
set_option maxRecDepth 20000 in
theorem bk_X12_look_0 {d : Nat} {w : hb_W} {Q : Option hb_V → hb_W → Prop} (h : (((hb_fI w 12 3 0) ≤ (hb_fI w 12 2 0)) → (((hb_fI w 12 3 0) ≤ (hb_fI w 12 2 0)) → Q (some (hb_i (-1 : Int32))) w) ∧ ((¬ (hb_fI w 12 3 0) ≤ (hb_fI w 12 2 0)) → vp_in (hb_fI w 12 2 0) 1600 ∧ (Q (some (hb_i (hb_aI w 12 1 0 (hb_fI w 12 2 0).toNatClampNeg))) w))) ∧ ((¬ (hb_fI w 12 3 0) ≤ (hb_fI w 12 2 0)) → vp_in (hb_fI w 12 2 0) 1600 ∧ ((((hb_aI w 12 1 0 (hb_fI w 12 2 0).toNatClampNeg) = (10 : Int32)) → hb_R yX12_look cX12_look 1 (some .int) d 0 [some (hb_r 12 0 0)] [] (hb_pI w 12 2 0 ((hb_fI w 12 2 0) + (1 : Int32))) Q) ∧ ((¬ (hb_aI w 12 1 0 (hb_fI w 12 2 0).toNatClampNeg) = (10 : Int32)) → vp_in (hb_fI w 12 2 0) 1600 ∧ (((¬ (hb_aI w 12 1 0 (hb_fI w 12 2 0).toNatClampNeg) = (32 : Int32)) → (((hb_fI w 12 3 0) ≤ (hb_fI w 12 2 0)) → Q (some (hb_i (-1 : Int32))) w) ∧ ((¬ (hb_fI w 12 3 0) ≤ (hb_fI w 12 2 0)) → vp_in (hb_fI w 12 2 0) 1600 ∧ (Q (some (hb_i (hb_aI w 12 1 0 (hb_fI w 12 2 0).toNatClampNeg))) w))) ∧ (((hb_aI w 12 1 0 (hb_fI w 12 2 0).toNatClampNeg) = (32 : Int32)) → hb_R yX12_look cX12_look 1 (some .int) d 0 [some (hb_r 12 0 0)] [] (hb_pI w 12 2 0 ((hb_fI w 12 2 0) + (1 : Int32))) Q)))))) : hb_R yX12_look cX12_look 1 (some .int) d 0 [some (hb_r 12 0 0)] [] w Q := by
  refine hb_aload_n (pc := 0) (i := 0) dX12_look_0 rfl rfl ?_
  refine hb_getIx (pc := 1) (x := hb_fI w 12 2 0) dX12_look_1 fw_X12_201 cw_12 rfl (by decide) rfl rfl ?_
  refine hb_aload_n (pc := 4) (i := 0) dX12_look_4 rfl rfl ?_
  refine hb_getIx (pc := 5) (x := hb_fI w 12 3 0) dX12_look_5 fw_X12_204 cw_12 rfl (by decide) rfl rfl ?_
  refine hb_icmp_ge (pc := 8) (tgt := 52) dX12_look_8 (by decide) (fun c1 => ?_) (fun c1 => ?_)
  · have ht1 := h.1 c1
    refine hb_aload_n (pc := 52) (i := 0) dX12_look_52 rfl rfl ?_
    refine hb_getIx (pc := 53) (x := hb_fI w 12 2 0) dX12_look_53 fw_X12_201 cw_12 rfl (by decide) rfl rfl ?_
    refine hb_aload_n (pc := 56) (i := 0) dX12_look_56 rfl rfl ?_
    refine hb_getIx (pc := 57) (x := hb_fI w 12 3 0) dX12_look_57 fw_X12_204 cw_12 rfl (by decide) rfl rfl ?_
    refine hb_icmp_ge (pc := 60) (tgt := 75) dX12_look_60 (by decide) (fun c2 => ?_) (fun c2 => ?_)
    · have ht2 := ht1.1 c2
      refine hb_iconst (pc := 75) (v := -1) dX12_look_75 (by decide) ?_
      exact hb_iret (pc := 76) dX12_look_76 rfl ht2
    · have ht2 := ht1.2 c2
      refine hb_aload_n (pc := 63) (i := 0) dX12_look_63 rfl rfl ?_
      refine hb_getR (pc := 64) (g1 := 0) dX12_look_64 fw_X12_7 cw_12 rfl (by decide) rfl (by decide) rfl ?_
      refine hb_aload_n (pc := 67) (i := 0) dX12_look_67 rfl rfl ?_
      refine hb_getIx (pc := 68) (x := hb_fI w 12 2 0) dX12_look_68 fw_X12_201 cw_12 rfl (by decide) rfl rfl ?_
      obtain ⟨ho3, hr3⟩ := ht2
      refine hb_ialdx (pc := 71) (x := hb_aI w 12 1 0 (hb_fI w 12 2 0).toNatClampNeg) dX12_look_71 rfl (by decide) ho3 rfl ?_
      refine hb_goto (pc := 72) (tgt := 76) dX12_look_72 (by decide) ?_
      exact hb_iret (pc := 76) dX12_look_76 rfl hr3
  · have ht1 := h.2 c1
    refine hb_aload_n (pc := 11) (i := 0) dX12_look_11 rfl rfl ?_
    refine hb_getR (pc := 12) (g1 := 0) dX12_look_12 fw_X12_7 cw_12 rfl (by decide) rfl (by decide) rfl ?_
    refine hb_aload_n (pc := 15) (i := 0) dX12_look_15 rfl rfl ?_
    refine hb_getIx (pc := 16) (x := hb_fI w 12 2 0) dX12_look_16 fw_X12_201 cw_12 rfl (by decide) rfl rfl ?_
    obtain ⟨ho4, hr4⟩ := ht1
    refine hb_ialdx (pc := 19) (x := hb_aI w 12 1 0 (hb_fI w 12 2 0).toNatClampNeg) dX12_look_19 rfl (by decide) ho4 rfl ?_
    refine hb_bipush (pc := 20) (v := 10) dX12_look_20 (by decide) ?_
    refine hb_icmp_eq (pc := 22) (tgt := 39) dX12_look_22 (by decide) (fun c5 => ?_) (fun c5 => ?_)
    · have ht5 := hr4.1 c5
      refine hb_aload_n (pc := 39) (i := 0) dX12_look_39 rfl rfl ?_
      refine hb_dupr (pc := 40) dX12_look_40 ?_
      refine hb_getIx (pc := 41) (x := hb_fI w 12 2 0) dX12_look_41 fw_X12_201 cw_12 rfl (by decide) rfl rfl ?_
      refine hb_iconst (pc := 44) (v := 1) dX12_look_44 (by decide) ?_
      refine hb_iadd (pc := 45) dX12_look_45 ?_
      refine hb_putI (pc := 46) dX12_look_46 fw_X12_201 cw_12 pw_12_2 rfl (by decide) rfl rfl rfl ?_
      refine hb_goto (pc := 49) (tgt := 0) dX12_look_49 (by decide) ?_
      exact ht5
    · have ht5 := hr4.2 c5
      refine hb_aload_n (pc := 25) (i := 0) dX12_look_25 rfl rfl ?_
      refine hb_getR (pc := 26) (g1 := 0) dX12_look_26 fw_X12_7 cw_12 rfl (by decide) rfl (by decide) rfl ?_
      refine hb_aload_n (pc := 29) (i := 0) dX12_look_29 rfl rfl ?_
      refine hb_getIx (pc := 30) (x := hb_fI w 12 2 0) dX12_look_30 fw_X12_201 cw_12 rfl (by decide) rfl rfl ?_
      obtain ⟨ho6, hr6⟩ := ht5
      refine hb_ialdx (pc := 33) (x := hb_aI w 12 1 0 (hb_fI w 12 2 0).toNatClampNeg) dX12_look_33 rfl (by decide) ho6 rfl ?_
      refine hb_bipush (pc := 34) (v := 32) dX12_look_34 (by decide) ?_
      refine hb_icmp_ne (pc := 36) (tgt := 52) dX12_look_36 (by decide) (fun c7 => ?_) (fun c7 => ?_)
      · have ht7 := hr6.1 c7
        refine hb_aload_n (pc := 52) (i := 0) dX12_look_52 rfl rfl ?_
        refine hb_getIx (pc := 53) (x := hb_fI w 12 2 0) dX12_look_53 fw_X12_201 cw_12 rfl (by decide) rfl rfl ?_
        refine hb_aload_n (pc := 56) (i := 0) dX12_look_56 rfl rfl ?_
        refine hb_getIx (pc := 57) (x := hb_fI w 12 3 0) dX12_look_57 fw_X12_204 cw_12 rfl (by decide) rfl rfl ?_
        refine hb_icmp_ge (pc := 60) (tgt := 75) dX12_look_60 (by decide) (fun c8 => ?_) (fun c8 => ?_)
        · have ht8 := ht7.1 c8
          refine hb_iconst (pc := 75) (v := -1) dX12_look_75 (by decide) ?_
          exact hb_iret (pc := 76) dX12_look_76 rfl ht8
        · have ht8 := ht7.2 c8
          refine hb_aload_n (pc := 63) (i := 0) dX12_look_63 rfl rfl ?_
          refine hb_getR (pc := 64) (g1 := 0) dX12_look_64 fw_X12_7 cw_12 rfl (by decide) rfl (by decide) rfl ?_
          refine hb_aload_n (pc := 67) (i := 0) dX12_look_67 rfl rfl ?_
          refine hb_getIx (pc := 68) (x := hb_fI w 12 2 0) dX12_look_68 fw_X12_201 cw_12 rfl (by decide) rfl rfl ?_
          obtain ⟨ho9, hr9⟩ := ht8
          refine hb_ialdx (pc := 71) (x := hb_aI w 12 1 0 (hb_fI w 12 2 0).toNatClampNeg) dX12_look_71 rfl (by decide) ho9 rfl ?_
          refine hb_goto (pc := 72) (tgt := 76) dX12_look_72 (by decide) ?_
          exact hb_iret (pc := 76) dX12_look_76 rfl hr9
      · have ht7 := hr6.2 c7
        refine hb_aload_n (pc := 39) (i := 0) dX12_look_39 rfl rfl ?_
        refine hb_dupr (pc := 40) dX12_look_40 ?_
        refine hb_getIx (pc := 41) (x := hb_fI w 12 2 0) dX12_look_41 fw_X12_201 cw_12 rfl (by decide) rfl rfl ?_
        refine hb_iconst (pc := 44) (v := 1) dX12_look_44 (by decide) ?_
        refine hb_iadd (pc := 45) dX12_look_45 ?_
        refine hb_putI (pc := 46) dX12_look_46 fw_X12_201 cw_12 pw_12_2 rfl (by decide) rfl rfl rfl ?_
        refine hb_goto (pc := 49) (tgt := 0) dX12_look_49 (by decide) ?_
        exact ht7
theorem dX12_isHere_0 : decode cX12_isHere 0 = .ok (.aload_n 0, 1) := by decide +kernel
theorem dX12_isHere_1 : decode cX12_isHere 1 = .ok (.getfield 195, 3) := by decide +kernel
theorem dX12_isHere_4 : decode cX12_isHere 4 = .ok (.ifCond .ne 24, 3) := by decide +kernel
theorem dX12_isHere_7 : decode cX12_isHere 7 = .ok (.aload_n 0, 1) := by decide +kernel
theorem dX12_isHere_8 : decode cX12_isHere 8 = .ok (.invokevirtual 207, 3) := by decide +kernel
theorem dX12_isHere_11 : decode cX12_isHere 11 = .ok (.invokestatic 211, 3) := by decide +kernel
theorem dX12_isHere_14 : decode cX12_isHere 14 = .ok (.ifCond .eq 14, 3) := by decide +kernel
theorem dX12_isHere_17 : decode cX12_isHere 17 = .ok (.aload_n 0, 1) := by decide +kernel
theorem dX12_isHere_18 : decode cX12_isHere 18 = .ok (.getfield 201, 3) := by decide +kernel
theorem dX12_isHere_21 : decode cX12_isHere 21 = .ok (.aload_n 0, 1) := by decide +kernel
theorem dX12_isHere_22 : decode cX12_isHere 22 = .ok (.getfield 215, 3) := by decide +kernel
theorem dX12_isHere_25 : decode cX12_isHere 25 = .ok (.if_icmp .ne 5, 3) := by decide +kernel
theorem dX12_isHere_28 : decode cX12_isHere 28 = .ok (.iconst 0, 1) := by decide +kernel
theorem dX12_isHere_29 : decode cX12_isHere 29 = .ok (.ireturn, 1) := by decide +kernel
theorem dX12_isHere_30 : decode cX12_isHere 30 = .ok (.aload_n 0, 1) := by decide +kernel
theorem dX12_isHere_31 : decode cX12_isHere 31 = .ok (.getfield 201, 3) := by decide +kernel
theorem dX12_isHere_34 : decode cX12_isHere 34 = .ok (.istore_n 2, 1) := by decide +kernel
theorem dX12_isHere_35 : decode cX12_isHere 35 = .ok (.iload_n 2, 1) := by decide +kernel
theorem dX12_isHere_36 : decode cX12_isHere 36 = .ok (.aload_n 0, 1) := by decide +kernel
theorem dX12_isHere_37 : decode cX12_isHere 37 = .ok (.getfield 204, 3) := by decide +kernel
theorem dX12_isHere_40 : decode cX12_isHere 40 = .ok (.if_icmp .ge 21, 3) := by decide +kernel
theorem dX12_isHere_43 : decode cX12_isHere 43 = .ok (.aload_n 0, 1) := by decide +kernel
theorem dX12_isHere_44 : decode cX12_isHere 44 = .ok (.getfield 7, 3) := by decide +kernel
theorem dX12_isHere_47 : decode cX12_isHere 47 = .ok (.iload_n 2, 1) := by decide +kernel
theorem dX12_isHere_48 : decode cX12_isHere 48 = .ok (.iaload, 1) := by decide +kernel
theorem dX12_isHere_49 : decode cX12_isHere 49 = .ok (.invokestatic 211, 3) := by decide +kernel
theorem dX12_isHere_52 : decode cX12_isHere 52 = .ok (.ifCond .eq 9, 3) := by decide +kernel
theorem dX12_isHere_55 : decode cX12_isHere 55 = .ok (.iinc 2 1, 3) := by decide +kernel
theorem dX12_isHere_58 : decode cX12_isHere 58 = .ok (.goto (-23), 3) := by decide +kernel
theorem dX12_isHere_61 : decode cX12_isHere 61 = .ok (.iload_n 2, 1) := by decide +kernel
theorem dX12_isHere_62 : decode cX12_isHere 62 = .ok (.aload_n 0, 1) := by decide +kernel
theorem dX12_isHere_63 : decode cX12_isHere 63 = .ok (.getfield 201, 3) := by decide +kernel
theorem dX12_isHere_66 : decode cX12_isHere 66 = .ok (.isub, 1) := by decide +kernel
theorem dX12_isHere_67 : decode cX12_isHere 67 = .ok (.aload_n 1, 1) := by decide +kernel
theorem dX12_isHere_68 : decode cX12_isHere 68 = .ok (.arraylength, 1) := by decide +kernel
theorem dX12_isHere_69 : decode cX12_isHere 69 = .ok (.if_icmp .eq 5, 3) := by decide +kernel
theorem dX12_isHere_72 : decode cX12_isHere 72 = .ok (.iconst 0, 1) := by decide +kernel
theorem dX12_isHere_73 : decode cX12_isHere 73 = .ok (.ireturn, 1) := by decide +kernel
theorem dX12_isHere_74 : decode cX12_isHere 74 = .ok (.iconst 0, 1) := by decide +kernel
theorem dX12_isHere_75 : decode cX12_isHere 75 = .ok (.istore_n 3, 1) := by decide +kernel
theorem dX12_isHere_76 : decode cX12_isHere 76 = .ok (.iload_n 3, 1) := by decide +kernel
theorem dX12_isHere_77 : decode cX12_isHere 77 = .ok (.aload_n 1, 1) := by decide +kernel
theorem dX12_isHere_78 : decode cX12_isHere 78 = .ok (.arraylength, 1) := by decide +kernel
theorem dX12_isHere_79 : decode cX12_isHere 79 = .ok (.if_icmp .ge 28, 3) := by decide +kernel
theorem dX12_isHere_82 : decode cX12_isHere 82 = .ok (.aload_n 0, 1) := by decide +kernel
theorem dX12_isHere_83 : decode cX12_isHere 83 = .ok (.getfield 7, 3) := by decide +kernel
theorem dX12_isHere_86 : decode cX12_isHere 86 = .ok (.aload_n 0, 1) := by decide +kernel
theorem dX12_isHere_87 : decode cX12_isHere 87 = .ok (.getfield 201, 3) := by decide +kernel
theorem dX12_isHere_90 : decode cX12_isHere 90 = .ok (.iload_n 3, 1) := by decide +kernel
theorem dX12_isHere_91 : decode cX12_isHere 91 = .ok (.iadd, 1) := by decide +kernel
theorem dX12_isHere_92 : decode cX12_isHere 92 = .ok (.iaload, 1) := by decide +kernel
theorem dX12_isHere_93 : decode cX12_isHere 93 = .ok (.aload_n 1, 1) := by decide +kernel
theorem dX12_isHere_94 : decode cX12_isHere 94 = .ok (.iload_n 3, 1) := by decide +kernel
theorem dX12_isHere_95 : decode cX12_isHere 95 = .ok (.caload, 1) := by decide +kernel
theorem dX12_isHere_96 : decode cX12_isHere 96 = .ok (.if_icmp .eq 5, 3) := by decide +kernel
theorem dX12_isHere_99 : decode cX12_isHere 99 = .ok (.iconst 0, 1) := by decide +kernel
theorem dX12_isHere_100 : decode cX12_isHere 100 = .ok (.ireturn, 1) := by decide +kernel
theorem dX12_isHere_101 : decode cX12_isHere 101 = .ok (.iinc 3 1, 3) := by decide +kernel
theorem dX12_isHere_104 : decode cX12_isHere 104 = .ok (.goto (-28), 3) := by decide +kernel
theorem dX12_isHere_107 : decode cX12_isHere 107 = .ok (.iconst 1, 1) := by decide +kernel
theorem dX12_isHere_108 : decode cX12_isHere 108 = .ok (.ireturn, 1) := by decide +kernel
set_option maxRecDepth 20000 in
theorem bk_X12_isHere_0 {d : Nat} {w : hb_W} {Q : Option hb_V → hb_W → Prop} {t1 g1 j1 n1 : Nat} (hs1 : hb_sh t1 j1 = some (.inr (2, n1))) (hg1 : g1 < hb_ct t1) (h : ((¬ (hb_fI w 12 5 0) = 0) → Q (some (hb_i (0 : Int32))) w) ∧ (((hb_fI w 12 5 0) = 0) → hb_O yX12_look cX12_look 1 (some .int) d [hb_r 12 0 0] w (fun rv w1 => hb_R yX12_isHere cX12_isHere 4 (some .boolean) (d + 1) 11 [some (hb_r 12 0 0), some (hb_r t1 g1 j1), none, none] (rv.toList ++ []) w1 Q))) : hb_R yX12_isHere cX12_isHere 4 (some .boolean) (d + 1) 0 [some (hb_r 12 0 0), some (hb_r t1 g1 j1), none, none] [] w Q := by
  refine hb_aload_n (pc := 0) (i := 0) dX12_isHere_0 rfl rfl ?_
  refine hb_getIx (pc := 1) (x := hb_fI w 12 5 0) dX12_isHere_1 fw_X12_195 cw_12 rfl (by decide) rfl rfl ?_
  refine hb_if_ne (pc := 4) (tgt := 28) dX12_isHere_4 (by decide) (fun c1 => ?_) (fun c1 => ?_)
  · have ht1 := h.1 c1
    refine hb_iconst (pc := 28) (v := 0) dX12_isHere_28 (by decide) ?_
    exact hb_zret (pc := 29) dX12_isHere_29 rfl (Or.inl rfl) ht1
  · have ht1 := h.2 c1
    refine hb_aload_n (pc := 7) (i := 0) dX12_isHere_7 rfl rfl ?_
    exact hb_callV (pc := 8) (As := []) (st := []) dX12_isHere_8 ml_X12_207 mf_X12_look mi_X12_look (ci := 12) rfl rfl (by decide) rfl rfl (Nat.le_of_ble_eq_true rfl) (Nat.le_of_ble_eq_true rfl) ht1 (fun _ _ q => q)
set_option maxRecDepth 20000 in
theorem bk_X12_isHere_11 {d : Nat} {w : hb_W} {Q : Option hb_V → hb_W → Prop} {t1 g1 j1 n1 : Nat} {xs0 : Int32} (hs1 : hb_sh t1 j1 = some (.inr (2, n1))) (hg1 : g1 < hb_ct t1) (h : hb_O yX12_isLetter cX12_isLetter 1 (some .boolean) d [hb_i xs0] w (fun rv w1 => hb_R yX12_isHere cX12_isHere 4 (some .boolean) (d + 1) 14 [some (hb_r 12 0 0), some (hb_r t1 g1 j1), none, none] (rv.toList ++ []) w1 Q)) : hb_R yX12_isHere cX12_isHere 4 (some .boolean) (d + 1) 11 [some (hb_r 12 0 0), some (hb_r t1 g1 j1), none, none] [hb_i xs0] w Q := by
  exact hb_callS (pc := 11) (As := [hb_i xs0]) (st := []) dX12_isHere_11 ml_X12_211 mf_X12_isLetter ms_X12_isLetter rfl rfl (Nat.le_of_ble_eq_true rfl) (Nat.le_of_ble_eq_true rfl) h (fun _ _ q => q)
set_option maxRecDepth 20000 in
theorem bk_X12_isHere_14 {d : Nat} {w : hb_W} {Q : Option hb_V → hb_W → Prop} {t1 g1 j1 n1 : Nat} {xs0 : Int32} (hs1 : hb_sh t1 j1 = some (.inr (2, n1))) (hg1 : g1 < hb_ct t1) (h : ((xs0 = 0) → Q (some (hb_i (0 : Int32))) w) ∧ ((¬ xs0 = 0) → ((¬ (hb_fI w 12 2 0) = (hb_fI w 12 4 0)) → hb_R yX12_isHere cX12_isHere 4 (some .boolean) (d + 1) 35 [some (hb_r 12 0 0), some (hb_r t1 g1 j1), some (hb_i (hb_fI w 12 2 0)), none] [] w Q) ∧ (((hb_fI w 12 2 0) = (hb_fI w 12 4 0)) → Q (some (hb_i (0 : Int32))) w))) : hb_R yX12_isHere cX12_isHere 4 (some .boolean) (d + 1) 14 [some (hb_r 12 0 0), some (hb_r t1 g1 j1), none, none] [hb_i xs0] w Q := by
  refine hb_if_eq (pc := 14) (tgt := 28) dX12_isHere_14 (by decide) (fun c1 => ?_) (fun c1 => ?_)
  · have ht1 := h.1 c1
    refine hb_iconst (pc := 28) (v := 0) dX12_isHere_28 (by decide) ?_
    exact hb_zret (pc := 29) dX12_isHere_29 rfl (Or.inl rfl) ht1
  · have ht1 := h.2 c1
    refine hb_aload_n (pc := 17) (i := 0) dX12_isHere_17 rfl rfl ?_
    refine hb_getIx (pc := 18) (x := hb_fI w 12 2 0) dX12_isHere_18 fw_X12_201 cw_12 rfl (by decide) rfl rfl ?_
    refine hb_aload_n (pc := 21) (i := 0) dX12_isHere_21 rfl rfl ?_
    refine hb_getIx (pc := 22) (x := hb_fI w 12 4 0) dX12_isHere_22 fw_X12_215 cw_12 rfl (by decide) rfl rfl ?_
    refine hb_icmp_ne (pc := 25) (tgt := 30) dX12_isHere_25 (by decide) (fun c2 => ?_) (fun c2 => ?_)
    · have ht2 := ht1.1 c2
      refine hb_aload_n (pc := 30) (i := 0) dX12_isHere_30 rfl rfl ?_
      refine hb_getIx (pc := 31) (x := hb_fI w 12 2 0) dX12_isHere_31 fw_X12_201 cw_12 rfl (by decide) rfl rfl ?_
      refine hb_istore_n (pc := 34) (i := 2) (ls1 := [some (hb_r 12 0 0), some (hb_r t1 g1 j1), some (hb_i (hb_fI w 12 2 0)), none]) dX12_isHere_34 rfl (by decide) rfl ?_
      exact ht2
    · have ht2 := ht1.2 c2
      refine hb_iconst (pc := 28) (v := 0) dX12_isHere_28 (by decide) ?_
      exact hb_zret (pc := 29) dX12_isHere_29 rfl (Or.inl rfl) ht2
set_option maxRecDepth 20000 in
theorem bk_X12_isHere_35 {d : Nat} {w : hb_W} {Q : Option hb_V → hb_W → Prop} {t1 g1 j1 n1 : Nat} {x2 : Int32} (hs1 : hb_sh t1 j1 = some (.inr (2, n1))) (hg1 : g1 < hb_ct t1) (h : (((hb_fI w 12 3 0) ≤ x2) → (((x2 - (hb_fI w 12 2 0)) = (Int32.ofNat n1)) → hb_R yX12_isHere cX12_isHere 4 (some .boolean) (d + 1) 76 [some (hb_r 12 0 0), some (hb_r t1 g1 j1), some (hb_i x2), some (hb_i (0 : Int32))] [] w Q) ∧ ((¬ (x2 - (hb_fI w 12 2 0)) = (Int32.ofNat n1)) → Q (some (hb_i (0 : Int32))) w)) ∧ ((¬ (hb_fI w 12 3 0) ≤ x2) → vp_in x2 1600 ∧ (hb_O yX12_isLetter cX12_isLetter 1 (some .boolean) d [hb_i (hb_aI w 12 1 0 x2.toNatClampNeg)] w (fun rv w1 => hb_R yX12_isHere cX12_isHere 4 (some .boolean) (d + 1) 52 [some (hb_r 12 0 0), some (hb_r t1 g1 j1), some (hb_i x2), none] (rv.toList ++ []) w1 Q)))) : hb_R yX12_isHere cX12_isHere 4 (some .boolean) (d + 1) 35 [some (hb_r 12 0 0), some (hb_r t1 g1 j1), some (hb_i x2), none] [] w Q := by
  refine hb_iload_n (pc := 35) (i := 2) dX12_isHere_35 rfl rfl ?_
  refine hb_aload_n (pc := 36) (i := 0) dX12_isHere_36 rfl rfl ?_
  refine hb_getIx (pc := 37) (x := hb_fI w 12 3 0) dX12_isHere_37 fw_X12_204 cw_12 rfl (by decide) rfl rfl ?_
  refine hb_icmp_ge (pc := 40) (tgt := 61) dX12_isHere_40 (by decide) (fun c1 => ?_) (fun c1 => ?_)
  · have ht1 := h.1 c1
    refine hb_iload_n (pc := 61) (i := 2) dX12_isHere_61 rfl rfl ?_
    refine hb_aload_n (pc := 62) (i := 0) dX12_isHere_62 rfl rfl ?_
    refine hb_getIx (pc := 63) (x := hb_fI w 12 2 0) dX12_isHere_63 fw_X12_201 cw_12 rfl (by decide) rfl rfl ?_
    refine hb_isub (pc := 66) dX12_isHere_66 ?_
    refine hb_aload_n (pc := 67) (i := 1) dX12_isHere_67 rfl rfl ?_
    refine hb_alen (pc := 68) (v := Int32.ofNat n1) dX12_isHere_68 hs1 (by decide) hg1 rfl ?_
    refine hb_icmp_eq (pc := 69) (tgt := 74) dX12_isHere_69 (by decide) (fun c2 => ?_) (fun c2 => ?_)
    · have ht2 := ht1.1 c2
      refine hb_iconst (pc := 74) (v := 0) dX12_isHere_74 (by decide) ?_
      refine hb_istore_n (pc := 75) (i := 3) (ls1 := [some (hb_r 12 0 0), some (hb_r t1 g1 j1), some (hb_i x2), some (hb_i (0 : Int32))]) dX12_isHere_75 rfl (by decide) rfl ?_
      exact ht2
    · have ht2 := ht1.2 c2
      refine hb_iconst (pc := 72) (v := 0) dX12_isHere_72 (by decide) ?_
      exact hb_zret (pc := 73) dX12_isHere_73 rfl (Or.inl rfl) ht2
  · have ht1 := h.2 c1
    refine hb_aload_n (pc := 43) (i := 0) dX12_isHere_43 rfl rfl ?_
    refine hb_getR (pc := 44) (g1 := 0) dX12_isHere_44 fw_X12_7 cw_12 rfl (by decide) rfl (by decide) rfl ?_
    refine hb_iload_n (pc := 47) (i := 2) dX12_isHere_47 rfl rfl ?_
    obtain ⟨ho3, hr3⟩ := ht1
    refine hb_ialdx (pc := 48) (x := hb_aI w 12 1 0 x2.toNatClampNeg) dX12_isHere_48 rfl (by decide) ho3 rfl ?_
    exact hb_callS (pc := 49) (As := [hb_i (hb_aI w 12 1 0 x2.toNatClampNeg)]) (st := []) dX12_isHere_49 ml_X12_211 mf_X12_isLetter ms_X12_isLetter rfl rfl (Nat.le_of_ble_eq_true rfl) (Nat.le_of_ble_eq_true rfl) hr3 (fun _ _ q => q)
set_option maxRecDepth 20000 in
theorem bk_X12_isHere_52 {d : Nat} {w : hb_W} {Q : Option hb_V → hb_W → Prop} {t1 g1 j1 n1 : Nat} {x2 : Int32} {xs0 : Int32} (hs1 : hb_sh t1 j1 = some (.inr (2, n1))) (hg1 : g1 < hb_ct t1) (h : ((xs0 = 0) → (((x2 - (hb_fI w 12 2 0)) = (Int32.ofNat n1)) → hb_R yX12_isHere cX12_isHere 4 (some .boolean) (d + 1) 76 [some (hb_r 12 0 0), some (hb_r t1 g1 j1), some (hb_i x2), some (hb_i (0 : Int32))] [] w Q) ∧ ((¬ (x2 - (hb_fI w 12 2 0)) = (Int32.ofNat n1)) → Q (some (hb_i (0 : Int32))) w)) ∧ ((¬ xs0 = 0) → hb_R yX12_isHere cX12_isHere 4 (some .boolean) (d + 1) 35 [some (hb_r 12 0 0), some (hb_r t1 g1 j1), some (hb_i (x2 + (1 : Int32))), none] [] w Q)) : hb_R yX12_isHere cX12_isHere 4 (some .boolean) (d + 1) 52 [some (hb_r 12 0 0), some (hb_r t1 g1 j1), some (hb_i x2), none] [hb_i xs0] w Q := by
  refine hb_if_eq (pc := 52) (tgt := 61) dX12_isHere_52 (by decide) (fun c1 => ?_) (fun c1 => ?_)
  · have ht1 := h.1 c1
    refine hb_iload_n (pc := 61) (i := 2) dX12_isHere_61 rfl rfl ?_
    refine hb_aload_n (pc := 62) (i := 0) dX12_isHere_62 rfl rfl ?_
    refine hb_getIx (pc := 63) (x := hb_fI w 12 2 0) dX12_isHere_63 fw_X12_201 cw_12 rfl (by decide) rfl rfl ?_
    refine hb_isub (pc := 66) dX12_isHere_66 ?_
    refine hb_aload_n (pc := 67) (i := 1) dX12_isHere_67 rfl rfl ?_
    refine hb_alen (pc := 68) (v := Int32.ofNat n1) dX12_isHere_68 hs1 (by decide) hg1 rfl ?_
    refine hb_icmp_eq (pc := 69) (tgt := 74) dX12_isHere_69 (by decide) (fun c2 => ?_) (fun c2 => ?_)
    · have ht2 := ht1.1 c2
      refine hb_iconst (pc := 74) (v := 0) dX12_isHere_74 (by decide) ?_
      refine hb_istore_n (pc := 75) (i := 3) (ls1 := [some (hb_r 12 0 0), some (hb_r t1 g1 j1), some (hb_i x2), some (hb_i (0 : Int32))]) dX12_isHere_75 rfl (by decide) rfl ?_
      exact ht2
    · have ht2 := ht1.2 c2
      refine hb_iconst (pc := 72) (v := 0) dX12_isHere_72 (by decide) ?_
      exact hb_zret (pc := 73) dX12_isHere_73 rfl (Or.inl rfl) ht2
  · have ht1 := h.2 c1
    refine hb_iinc (pc := 55) (v := x2 + (1 : Int32)) (ls1 := [some (hb_r 12 0 0), some (hb_r t1 g1 j1), some (hb_i (x2 + (1 : Int32))), none]) dX12_isHere_55 rfl rfl (by decide) rfl ?_
    refine hb_goto (pc := 58) (tgt := 35) dX12_isHere_58 (by decide) ?_
    exact ht1
set_option maxRecDepth 20000 in
theorem bk_X12_isHere_76 {d : Nat} {w : hb_W} {Q : Option hb_V → hb_W → Prop} {t1 g1 j1 n1 : Nat} {x2 : Int32} {x3 : Int32} (hs1 : hb_sh t1 j1 = some (.inr (2, n1))) (hg1 : g1 < hb_ct t1) (h : (((Int32.ofNat n1) ≤ x3) → Q (some (hb_i (1 : Int32))) w) ∧ ((¬ (Int32.ofNat n1) ≤ x3) → vp_in ((hb_fI w 12 2 0) + x3) 1600 ∧ (vp_in x3 n1 ∧ ((((hb_aI w 12 1 0 ((hb_fI w 12 2 0) + x3).toNatClampNeg) = (hb_aI w t1 j1 g1 x3.toNatClampNeg)) → hb_R yX12_isHere cX12_isHere 4 (some .boolean) (d + 1) 76 [some (hb_r 12 0 0), some (hb_r t1 g1 j1), some (hb_i x2), some (hb_i (x3 + (1 : Int32)))] [] w Q) ∧ ((¬ (hb_aI w 12 1 0 ((hb_fI w 12 2 0) + x3).toNatClampNeg) = (hb_aI w t1 j1 g1 x3.toNatClampNeg)) → Q (some (hb_i (0 : Int32))) w))))) : hb_R yX12_isHere cX12_isHere 4 (some .boolean) (d + 1) 76 [some (hb_r 12 0 0), some (hb_r t1 g1 j1), some (hb_i x2), some (hb_i x3)] [] w Q := by
  refine hb_iload_n (pc := 76) (i := 3) dX12_isHere_76 rfl rfl ?_
  refine hb_aload_n (pc := 77) (i := 1) dX12_isHere_77 rfl rfl ?_
  refine hb_alen (pc := 78) (v := Int32.ofNat n1) dX12_isHere_78 hs1 (by decide) hg1 rfl ?_
  refine hb_icmp_ge (pc := 79) (tgt := 107) dX12_isHere_79 (by decide) (fun c1 => ?_) (fun c1 => ?_)
  · have ht1 := h.1 c1
    refine hb_iconst (pc := 107) (v := 1) dX12_isHere_107 (by decide) ?_
    exact hb_zret (pc := 108) dX12_isHere_108 rfl (Or.inr rfl) ht1
  · have ht1 := h.2 c1
    refine hb_aload_n (pc := 82) (i := 0) dX12_isHere_82 rfl rfl ?_
    refine hb_getR (pc := 83) (g1 := 0) dX12_isHere_83 fw_X12_7 cw_12 rfl (by decide) rfl (by decide) rfl ?_
    refine hb_aload_n (pc := 86) (i := 0) dX12_isHere_86 rfl rfl ?_
    refine hb_getIx (pc := 87) (x := hb_fI w 12 2 0) dX12_isHere_87 fw_X12_201 cw_12 rfl (by decide) rfl rfl ?_
    refine hb_iload_n (pc := 90) (i := 3) dX12_isHere_90 rfl rfl ?_
    refine hb_iadd (pc := 91) dX12_isHere_91 ?_
    obtain ⟨ho2, hr2⟩ := ht1
    refine hb_ialdx (pc := 92) (x := hb_aI w 12 1 0 ((hb_fI w 12 2 0) + x3).toNatClampNeg) dX12_isHere_92 rfl (by decide) ho2 rfl ?_
    refine hb_aload_n (pc := 93) (i := 1) dX12_isHere_93 rfl rfl ?_
    refine hb_iload_n (pc := 94) (i := 3) dX12_isHere_94 rfl rfl ?_
    obtain ⟨ho3, hr3⟩ := hr2
    refine hb_caldx (pc := 95) (x := hb_aI w t1 j1 g1 x3.toNatClampNeg) dX12_isHere_95 hs1 hg1 ho3 rfl ?_
    refine hb_icmp_eq (pc := 96) (tgt := 101) dX12_isHere_96 (by decide) (fun c4 => ?_) (fun c4 => ?_)
    · have ht4 := hr3.1 c4
      refine hb_iinc (pc := 101) (v := x3 + (1 : Int32)) (ls1 := [some (hb_r 12 0 0), some (hb_r t1 g1 j1), some (hb_i x2), some (hb_i (x3 + (1 : Int32)))]) dX12_isHere_101 rfl rfl (by decide) rfl ?_
      refine hb_goto (pc := 104) (tgt := 76) dX12_isHere_104 (by decide) ?_
      exact ht4
    · have ht4 := hr3.2 c4
      refine hb_iconst (pc := 99) (v := 0) dX12_isHere_99 (by decide) ?_
      exact hb_zret (pc := 100) dX12_isHere_100 rfl (Or.inl rfl) ht4
theorem dX12_takes_0 : decode cX12_takes 0 = .ok (.aload_n 0, 1) := by decide +kernel
theorem dX12_takes_1 : decode cX12_takes 1 = .ok (.aload_n 1, 1) := by decide +kernel
theorem dX12_takes_2 : decode cX12_takes 2 = .ok (.invokevirtual 218, 3) := by decide +kernel
theorem dX12_takes_5 : decode cX12_takes 5 = .ok (.ifCond .ne 5, 3) := by decide +kernel
theorem dX12_takes_8 : decode cX12_takes 8 = .ok (.iconst 0, 1) := by decide +kernel
theorem dX12_takes_9 : decode cX12_takes 9 = .ok (.ireturn, 1) := by decide +kernel
theorem dX12_takes_10 : decode cX12_takes 10 = .ok (.aload_n 0, 1) := by decide +kernel
theorem dX12_takes_11 : decode cX12_takes 11 = .ok (.dup, 1) := by decide +kernel
theorem dX12_takes_12 : decode cX12_takes 12 = .ok (.getfield 201, 3) := by decide +kernel
theorem dX12_takes_15 : decode cX12_takes 15 = .ok (.aload_n 1, 1) := by decide +kernel
theorem dX12_takes_16 : decode cX12_takes 16 = .ok (.arraylength, 1) := by decide +kernel
theorem dX12_takes_17 : decode cX12_takes 17 = .ok (.iadd, 1) := by decide +kernel
theorem dX12_takes_18 : decode cX12_takes 18 = .ok (.putfield 201, 3) := by decide +kernel
theorem dX12_takes_21 : decode cX12_takes 21 = .ok (.aload_n 0, 1) := by decide +kernel
theorem dX12_takes_22 : decode cX12_takes 22 = .ok (.aload_n 0, 1) := by decide +kernel
theorem dX12_takes_23 : decode cX12_takes 23 = .ok (.getfield 201, 3) := by decide +kernel
theorem dX12_takes_26 : decode cX12_takes 26 = .ok (.putfield 215, 3) := by decide +kernel
theorem dX12_takes_29 : decode cX12_takes 29 = .ok (.iconst 1, 1) := by decide +kernel
theorem dX12_takes_30 : decode cX12_takes 30 = .ok (.ireturn, 1) := by decide +kernel
set_option maxRecDepth 20000 in
theorem bk_X12_takes_0 {d : Nat} {w : hb_W} {Q : Option hb_V → hb_W → Prop} {t1 g1 j1 n1 : Nat} (hs1 : hb_sh t1 j1 = some (.inr (2, n1))) (hg1 : g1 < hb_ct t1) (h : hb_O yX12_isHere cX12_isHere 4 (some .boolean) d [hb_r 12 0 0, hb_r t1 g1 j1] w (fun rv w1 => hb_R yX12_takes cX12_takes 2 (some .boolean) (d + 1) 5 [some (hb_r 12 0 0), some (hb_r t1 g1 j1)] (rv.toList ++ []) w1 Q)) : hb_R yX12_takes cX12_takes 2 (some .boolean) (d + 1) 0 [some (hb_r 12 0 0), some (hb_r t1 g1 j1)] [] w Q := by
  refine hb_aload_n (pc := 0) (i := 0) dX12_takes_0 rfl rfl ?_
  refine hb_aload_n (pc := 1) (i := 1) dX12_takes_1 rfl rfl ?_
  exact hb_callV (pc := 2) (As := [hb_r t1 g1 j1]) (st := []) dX12_takes_2 ml_X12_218 mf_X12_isHere mi_X12_isHere (ci := 12) rfl rfl (by decide) rfl rfl (Nat.le_of_ble_eq_true rfl) (Nat.le_of_ble_eq_true rfl) h (fun _ _ q => q)
set_option maxRecDepth 20000 in
theorem bk_X12_takes_5 {d : Nat} {w : hb_W} {Q : Option hb_V → hb_W → Prop} {t1 g1 j1 n1 : Nat} {xs0 : Int32} (hs1 : hb_sh t1 j1 = some (.inr (2, n1))) (hg1 : g1 < hb_ct t1) (h : ((¬ xs0 = 0) → Q (some (hb_i (1 : Int32))) (hb_pI (hb_pI w 12 2 0 ((hb_fI w 12 2 0) + (Int32.ofNat n1))) 12 4 0 ((hb_fI w 12 2 0) + (Int32.ofNat n1)))) ∧ ((xs0 = 0) → Q (some (hb_i (0 : Int32))) w)) : hb_R yX12_takes cX12_takes 2 (some .boolean) (d + 1) 5 [some (hb_r 12 0 0), some (hb_r t1 g1 j1)] [hb_i xs0] w Q := by
  refine hb_if_ne (pc := 5) (tgt := 10) dX12_takes_5 (by decide) (fun c1 => ?_) (fun c1 => ?_)
  · have ht1 := h.1 c1
    refine hb_aload_n (pc := 10) (i := 0) dX12_takes_10 rfl rfl ?_
    refine hb_dupr (pc := 11) dX12_takes_11 ?_
    refine hb_getIx (pc := 12) (x := hb_fI w 12 2 0) dX12_takes_12 fw_X12_201 cw_12 rfl (by decide) rfl rfl ?_
    refine hb_aload_n (pc := 15) (i := 1) dX12_takes_15 rfl rfl ?_
    refine hb_alen (pc := 16) (v := Int32.ofNat n1) dX12_takes_16 hs1 (by decide) hg1 rfl ?_
    refine hb_iadd (pc := 17) dX12_takes_17 ?_
    refine hb_putI (pc := 18) dX12_takes_18 fw_X12_201 cw_12 pw_12_2 rfl (by decide) rfl rfl rfl ?_
    refine hb_aload_n (pc := 21) (i := 0) dX12_takes_21 rfl rfl ?_
    refine hb_aload_n (pc := 22) (i := 0) dX12_takes_22 rfl rfl ?_
    refine hb_getIx (pc := 23) (x := (hb_fI w 12 2 0) + (Int32.ofNat n1)) dX12_takes_23 fw_X12_201 cw_12 rfl (by decide) rfl rfl ?_
    refine hb_putI (pc := 26) dX12_takes_26 fw_X12_215 cw_12 pw_12_4 rfl (by decide) rfl rfl rfl ?_
    refine hb_iconst (pc := 29) (v := 1) dX12_takes_29 (by decide) ?_
    exact hb_zret (pc := 30) dX12_takes_30 rfl (Or.inr rfl) ht1
  · have ht1 := h.2 c1
    refine hb_iconst (pc := 8) (v := 0) dX12_takes_8 (by decide) ?_
    exact hb_zret (pc := 9) dX12_takes_9 rfl (Or.inl rfl) ht1
theorem dX12_asks_0 : decode cX12_asks 0 = .ok (.aload_n 0, 1) := by decide +kernel
theorem dX12_asks_1 : decode cX12_asks 1 = .ok (.getfield 195, 3) := by decide +kernel
theorem dX12_asks_4 : decode cX12_asks 4 = .ok (.ifCond .ne 20, 3) := by decide +kernel
theorem dX12_asks_7 : decode cX12_asks 7 = .ok (.aload_n 0, 1) := by decide +kernel
theorem dX12_asks_8 : decode cX12_asks 8 = .ok (.aload_n 1, 1) := by decide +kernel
theorem dX12_asks_9 : decode cX12_asks 9 = .ok (.invokevirtual 222, 3) := by decide +kernel
theorem dX12_asks_12 : decode cX12_asks 12 = .ok (.ifCond .ne 12, 3) := by decide +kernel
theorem dX12_asks_15 : decode cX12_asks 15 = .ok (.aload_n 0, 1) := by decide +kernel
theorem dX12_asks_16 : decode cX12_asks 16 = .ok (.iconst 1, 1) := by decide +kernel
theorem dX12_asks_17 : decode cX12_asks 17 = .ok (.aload_n 0, 1) := by decide +kernel
theorem dX12_asks_18 : decode cX12_asks 18 = .ok (.getfield 201, 3) := by decide +kernel
theorem dX12_asks_21 : decode cX12_asks 21 = .ok (.invokevirtual 225, 3) := by decide +kernel
theorem dX12_asks_24 : decode cX12_asks 24 = .ok (.return_, 1) := by decide +kernel
set_option maxRecDepth 20000 in
theorem bk_X12_asks_0 {d : Nat} {w : hb_W} {Q : Option hb_V → hb_W → Prop} {t1 g1 j1 n1 : Nat} (hs1 : hb_sh t1 j1 = some (.inr (2, n1))) (hg1 : g1 < hb_ct t1) (h : ((¬ (hb_fI w 12 5 0) = 0) → hb_R yX12_asks cX12_asks 2 none (d + 1) 24 [some (hb_r 12 0 0), some (hb_r t1 g1 j1)] [] w Q) ∧ (((hb_fI w 12 5 0) = 0) → hb_O yX12_takes cX12_takes 2 (some .boolean) d [hb_r 12 0 0, hb_r t1 g1 j1] w (fun rv w1 => hb_R yX12_asks cX12_asks 2 none (d + 1) 12 [some (hb_r 12 0 0), some (hb_r t1 g1 j1)] (rv.toList ++ []) w1 Q))) : hb_R yX12_asks cX12_asks 2 none (d + 1) 0 [some (hb_r 12 0 0), some (hb_r t1 g1 j1)] [] w Q := by
  refine hb_aload_n (pc := 0) (i := 0) dX12_asks_0 rfl rfl ?_
  refine hb_getIx (pc := 1) (x := hb_fI w 12 5 0) dX12_asks_1 fw_X12_195 cw_12 rfl (by decide) rfl rfl ?_
  refine hb_if_ne (pc := 4) (tgt := 24) dX12_asks_4 (by decide) (fun c1 => ?_) (fun c1 => ?_)
  · have ht1 := h.1 c1
    exact ht1
  · have ht1 := h.2 c1
    refine hb_aload_n (pc := 7) (i := 0) dX12_asks_7 rfl rfl ?_
    refine hb_aload_n (pc := 8) (i := 1) dX12_asks_8 rfl rfl ?_
    exact hb_callV (pc := 9) (As := [hb_r t1 g1 j1]) (st := []) dX12_asks_9 ml_X12_222 mf_X12_takes mi_X12_takes (ci := 12) rfl rfl (by decide) rfl rfl (Nat.le_of_ble_eq_true rfl) (Nat.le_of_ble_eq_true rfl) ht1 (fun _ _ q => q)
set_option maxRecDepth 20000 in
theorem bk_X12_asks_12 {d : Nat} {w : hb_W} {Q : Option hb_V → hb_W → Prop} {t1 g1 j1 n1 : Nat} {xs0 : Int32} (hs1 : hb_sh t1 j1 = some (.inr (2, n1))) (hg1 : g1 < hb_ct t1) (h : ((¬ xs0 = 0) → hb_R yX12_asks cX12_asks 2 none (d + 1) 24 [some (hb_r 12 0 0), some (hb_r t1 g1 j1)] [] w Q) ∧ ((xs0 = 0) → hb_O yX12_fail cX12_fail 3 none d [hb_r 12 0 0, hb_i (1 : Int32), hb_i (hb_fI w 12 2 0)] w (fun rv w1 => hb_R yX12_asks cX12_asks 2 none (d + 1) 24 [some (hb_r 12 0 0), some (hb_r t1 g1 j1)] (rv.toList ++ []) w1 Q))) : hb_R yX12_asks cX12_asks 2 none (d + 1) 12 [some (hb_r 12 0 0), some (hb_r t1 g1 j1)] [hb_i xs0] w Q := by
  refine hb_if_ne (pc := 12) (tgt := 24) dX12_asks_12 (by decide) (fun c1 => ?_) (fun c1 => ?_)
  · have ht1 := h.1 c1
    exact ht1
  · have ht1 := h.2 c1
    refine hb_aload_n (pc := 15) (i := 0) dX12_asks_15 rfl rfl ?_
    refine hb_iconst (pc := 16) (v := 1) dX12_asks_16 (by decide) ?_
    refine hb_aload_n (pc := 17) (i := 0) dX12_asks_17 rfl rfl ?_
    refine hb_getIx (pc := 18) (x := hb_fI w 12 2 0) dX12_asks_18 fw_X12_201 cw_12 rfl (by decide) rfl rfl ?_
    exact hb_callV (pc := 21) (As := [hb_i (1 : Int32), hb_i (hb_fI w 12 2 0)]) (st := []) dX12_asks_21 ml_X12_225 mf_X12_fail mi_X12_fail (ci := 12) rfl rfl (by decide) rfl rfl (Nat.le_of_ble_eq_true rfl) (Nat.le_of_ble_eq_true rfl) ht1 (fun _ _ q => q)
set_option maxRecDepth 20000 in
theorem bk_X12_asks_24 {d : Nat} {w : hb_W} {Q : Option hb_V → hb_W → Prop} {t1 g1 j1 n1 : Nat} (hs1 : hb_sh t1 j1 = some (.inr (2, n1))) (hg1 : g1 < hb_ct t1) (h : Q none w) : hb_R yX12_asks cX12_asks 2 none (d + 1) 24 [some (hb_r 12 0 0), some (hb_r t1 g1 j1)] [] w Q := by
  exact hb_vret (pc := 24) dX12_asks_24 rfl h
theorem dX12_takesSign_0 : decode cX12_takesSign 0 = .ok (.aload_n 0, 1) := by decide +kernel
theorem dX12_takesSign_1 : decode cX12_takesSign 1 = .ok (.getfield 195, 3) := by decide +kernel
theorem dX12_takesSign_4 : decode cX12_takesSign 4 = .ok (.ifCond .ne 11, 3) := by decide +kernel
theorem dX12_takesSign_7 : decode cX12_takesSign 7 = .ok (.aload_n 0, 1) := by decide +kernel
theorem dX12_takesSign_8 : decode cX12_takesSign 8 = .ok (.invokevirtual 207, 3) := by decide +kernel
theorem dX12_takesSign_11 : decode cX12_takesSign 11 = .ok (.iload_n 1, 1) := by decide +kernel
theorem dX12_takesSign_12 : decode cX12_takesSign 12 = .ok (.if_icmp .eq 5, 3) := by decide +kernel
theorem dX12_takesSign_15 : decode cX12_takesSign 15 = .ok (.iconst 0, 1) := by decide +kernel
theorem dX12_takesSign_16 : decode cX12_takesSign 16 = .ok (.ireturn, 1) := by decide +kernel
theorem dX12_takesSign_17 : decode cX12_takesSign 17 = .ok (.aload_n 0, 1) := by decide +kernel
theorem dX12_takesSign_18 : decode cX12_takesSign 18 = .ok (.dup, 1) := by decide +kernel
theorem dX12_takesSign_19 : decode cX12_takesSign 19 = .ok (.getfield 201, 3) := by decide +kernel
theorem dX12_takesSign_22 : decode cX12_takesSign 22 = .ok (.iconst 1, 1) := by decide +kernel
theorem dX12_takesSign_23 : decode cX12_takesSign 23 = .ok (.iadd, 1) := by decide +kernel
theorem dX12_takesSign_24 : decode cX12_takesSign 24 = .ok (.putfield 201, 3) := by decide +kernel
theorem dX12_takesSign_27 : decode cX12_takesSign 27 = .ok (.iconst 1, 1) := by decide +kernel
theorem dX12_takesSign_28 : decode cX12_takesSign 28 = .ok (.ireturn, 1) := by decide +kernel
set_option maxRecDepth 20000 in
theorem bk_X12_takesSign_0 {d : Nat} {w : hb_W} {Q : Option hb_V → hb_W → Prop} {x1 : Int32} (h : ((¬ (hb_fI w 12 5 0) = 0) → Q (some (hb_i (0 : Int32))) w) ∧ (((hb_fI w 12 5 0) = 0) → hb_O yX12_look cX12_look 1 (some .int) d [hb_r 12 0 0] w (fun rv w1 => hb_R yX12_takesSign cX12_takesSign 2 (some .boolean) (d + 1) 11 [some (hb_r 12 0 0), some (hb_i x1)] (rv.toList ++ []) w1 Q))) : hb_R yX12_takesSign cX12_takesSign 2 (some .boolean) (d + 1) 0 [some (hb_r 12 0 0), some (hb_i x1)] [] w Q := by
  refine hb_aload_n (pc := 0) (i := 0) dX12_takesSign_0 rfl rfl ?_
  refine hb_getIx (pc := 1) (x := hb_fI w 12 5 0) dX12_takesSign_1 fw_X12_195 cw_12 rfl (by decide) rfl rfl ?_
  refine hb_if_ne (pc := 4) (tgt := 15) dX12_takesSign_4 (by decide) (fun c1 => ?_) (fun c1 => ?_)
  · have ht1 := h.1 c1
    refine hb_iconst (pc := 15) (v := 0) dX12_takesSign_15 (by decide) ?_
    exact hb_zret (pc := 16) dX12_takesSign_16 rfl (Or.inl rfl) ht1
  · have ht1 := h.2 c1
    refine hb_aload_n (pc := 7) (i := 0) dX12_takesSign_7 rfl rfl ?_
    exact hb_callV (pc := 8) (As := []) (st := []) dX12_takesSign_8 ml_X12_207 mf_X12_look mi_X12_look (ci := 12) rfl rfl (by decide) rfl rfl (Nat.le_of_ble_eq_true rfl) (Nat.le_of_ble_eq_true rfl) ht1 (fun _ _ q => q)
set_option maxRecDepth 20000 in
theorem bk_X12_takesSign_11 {d : Nat} {w : hb_W} {Q : Option hb_V → hb_W → Prop} {x1 : Int32} {xs0 : Int32} (h : ((xs0 = x1) → Q (some (hb_i (1 : Int32))) (hb_pI w 12 2 0 ((hb_fI w 12 2 0) + (1 : Int32)))) ∧ ((¬ xs0 = x1) → Q (some (hb_i (0 : Int32))) w)) : hb_R yX12_takesSign cX12_takesSign 2 (some .boolean) (d + 1) 11 [some (hb_r 12 0 0), some (hb_i x1)] [hb_i xs0] w Q := by
  refine hb_iload_n (pc := 11) (i := 1) dX12_takesSign_11 rfl rfl ?_
  refine hb_icmp_eq (pc := 12) (tgt := 17) dX12_takesSign_12 (by decide) (fun c1 => ?_) (fun c1 => ?_)
  · have ht1 := h.1 c1
    refine hb_aload_n (pc := 17) (i := 0) dX12_takesSign_17 rfl rfl ?_
    refine hb_dupr (pc := 18) dX12_takesSign_18 ?_
    refine hb_getIx (pc := 19) (x := hb_fI w 12 2 0) dX12_takesSign_19 fw_X12_201 cw_12 rfl (by decide) rfl rfl ?_
    refine hb_iconst (pc := 22) (v := 1) dX12_takesSign_22 (by decide) ?_
    refine hb_iadd (pc := 23) dX12_takesSign_23 ?_
    refine hb_putI (pc := 24) dX12_takesSign_24 fw_X12_201 cw_12 pw_12_2 rfl (by decide) rfl rfl rfl ?_
    refine hb_iconst (pc := 27) (v := 1) dX12_takesSign_27 (by decide) ?_
    exact hb_zret (pc := 28) dX12_takesSign_28 rfl (Or.inr rfl) ht1
  · have ht1 := h.2 c1
    refine hb_iconst (pc := 15) (v := 0) dX12_takesSign_15 (by decide) ?_
    exact hb_zret (pc := 16) dX12_takesSign_16 rfl (Or.inl rfl) ht1
theorem dX12_asksSign_0 : decode cX12_asksSign 0 = .ok (.aload_n 0, 1) := by decide +kernel
theorem dX12_asksSign_1 : decode cX12_asksSign 1 = .ok (.getfield 195, 3) := by decide +kernel
theorem dX12_asksSign_4 : decode cX12_asksSign 4 = .ok (.ifCond .ne 20, 3) := by decide +kernel
theorem dX12_asksSign_7 : decode cX12_asksSign 7 = .ok (.aload_n 0, 1) := by decide +kernel
theorem dX12_asksSign_8 : decode cX12_asksSign 8 = .ok (.iload_n 1, 1) := by decide +kernel
theorem dX12_asksSign_9 : decode cX12_asksSign 9 = .ok (.invokevirtual 229, 3) := by decide +kernel
theorem dX12_asksSign_12 : decode cX12_asksSign 12 = .ok (.ifCond .ne 12, 3) := by decide +kernel
theorem dX12_asksSign_15 : decode cX12_asksSign 15 = .ok (.aload_n 0, 1) := by decide +kernel
theorem dX12_asksSign_16 : decode cX12_asksSign 16 = .ok (.iconst 1, 1) := by decide +kernel
theorem dX12_asksSign_17 : decode cX12_asksSign 17 = .ok (.aload_n 0, 1) := by decide +kernel
theorem dX12_asksSign_18 : decode cX12_asksSign 18 = .ok (.getfield 201, 3) := by decide +kernel
theorem dX12_asksSign_21 : decode cX12_asksSign 21 = .ok (.invokevirtual 225, 3) := by decide +kernel
theorem dX12_asksSign_24 : decode cX12_asksSign 24 = .ok (.return_, 1) := by decide +kernel
set_option maxRecDepth 20000 in
theorem bk_X12_asksSign_0 {d : Nat} {w : hb_W} {Q : Option hb_V → hb_W → Prop} {x1 : Int32} (h : ((¬ (hb_fI w 12 5 0) = 0) → hb_R yX12_asksSign cX12_asksSign 2 none (d + 1) 24 [some (hb_r 12 0 0), some (hb_i x1)] [] w Q) ∧ (((hb_fI w 12 5 0) = 0) → hb_O yX12_takesSign cX12_takesSign 2 (some .boolean) d [hb_r 12 0 0, hb_i x1] w (fun rv w1 => hb_R yX12_asksSign cX12_asksSign 2 none (d + 1) 12 [some (hb_r 12 0 0), some (hb_i x1)] (rv.toList ++ []) w1 Q))) : hb_R yX12_asksSign cX12_asksSign 2 none (d + 1) 0 [some (hb_r 12 0 0), some (hb_i x1)] [] w Q := by
  refine hb_aload_n (pc := 0) (i := 0) dX12_asksSign_0 rfl rfl ?_
  refine hb_getIx (pc := 1) (x := hb_fI w 12 5 0) dX12_asksSign_1 fw_X12_195 cw_12 rfl (by decide) rfl rfl ?_
  refine hb_if_ne (pc := 4) (tgt := 24) dX12_asksSign_4 (by decide) (fun c1 => ?_) (fun c1 => ?_)
  · have ht1 := h.1 c1
    exact ht1
  · have ht1 := h.2 c1
    refine hb_aload_n (pc := 7) (i := 0) dX12_asksSign_7 rfl rfl ?_
    refine hb_iload_n (pc := 8) (i := 1) dX12_asksSign_8 rfl rfl ?_
    exact hb_callV (pc := 9) (As := [hb_i x1]) (st := []) dX12_asksSign_9 ml_X12_229 mf_X12_takesSign mi_X12_takesSign (ci := 12) rfl rfl (by decide) rfl rfl (Nat.le_of_ble_eq_true rfl) (Nat.le_of_ble_eq_true rfl) ht1 (fun _ _ q => q)
set_option maxRecDepth 20000 in
theorem bk_X12_asksSign_12 {d : Nat} {w : hb_W} {Q : Option hb_V → hb_W → Prop} {x1 : Int32} {xs0 : Int32} (h : ((¬ xs0 = 0) → hb_R yX12_asksSign cX12_asksSign 2 none (d + 1) 24 [some (hb_r 12 0 0), some (hb_i x1)] [] w Q) ∧ ((xs0 = 0) → hb_O yX12_fail cX12_fail 3 none d [hb_r 12 0 0, hb_i (1 : Int32), hb_i (hb_fI w 12 2 0)] w (fun rv w1 => hb_R yX12_asksSign cX12_asksSign 2 none (d + 1) 24 [some (hb_r 12 0 0), some (hb_i x1)] (rv.toList ++ []) w1 Q))) : hb_R yX12_asksSign cX12_asksSign 2 none (d + 1) 12 [some (hb_r 12 0 0), some (hb_i x1)] [hb_i xs0] w Q := by
  refine hb_if_ne (pc := 12) (tgt := 24) dX12_asksSign_12 (by decide) (fun c1 => ?_) (fun c1 => ?_)
  · have ht1 := h.1 c1
    exact ht1
  · have ht1 := h.2 c1
    refine hb_aload_n (pc := 15) (i := 0) dX12_asksSign_15 rfl rfl ?_
    refine hb_iconst (pc := 16) (v := 1) dX12_asksSign_16 (by decide) ?_
    refine hb_aload_n (pc := 17) (i := 0) dX12_asksSign_17 rfl rfl ?_
    refine hb_getIx (pc := 18) (x := hb_fI w 12 2 0) dX12_asksSign_18 fw_X12_201 cw_12 rfl (by decide) rfl rfl ?_
    exact hb_callV (pc := 21) (As := [hb_i (1 : Int32), hb_i (hb_fI w 12 2 0)]) (st := []) dX12_asksSign_21 ml_X12_225 mf_X12_fail mi_X12_fail (ci := 12) rfl rfl (by decide) rfl rfl (Nat.le_of_ble_eq_true rfl) (Nat.le_of_ble_eq_true rfl) ht1 (fun _ _ q => q)
set_option maxRecDepth 20000 in
theorem bk_X12_asksSign_24 {d : Nat} {w : hb_W} {Q : Option hb_V → hb_W → Prop} {x1 : Int32} (h : Q none w) : hb_R yX12_asksSign cX12_asksSign 2 none (d + 1) 24 [some (hb_r 12 0 0), some (hb_i x1)] [] w Q := by
  exact hb_vret (pc := 24) dX12_asksSign_24 rfl h
theorem dX12_number_0 : decode cX12_number 0 = .ok (.aload_n 0, 1) := by decide +kernel
theorem dX12_number_1 : decode cX12_number 1 = .ok (.getfield 195, 3) := by decide +kernel
theorem dX12_number_4 : decode cX12_number 4 = .ok (.ifCond .eq 5, 3) := by decide +kernel
theorem dX12_number_7 : decode cX12_number 7 = .ok (.iconst 0, 1) := by decide +kernel
theorem dX12_number_8 : decode cX12_number 8 = .ok (.ireturn, 1) := by decide +kernel
theorem dX12_number_9 : decode cX12_number 9 = .ok (.aload_n 0, 1) := by decide +kernel
theorem dX12_number_10 : decode cX12_number 10 = .ok (.invokevirtual 207, 3) := by decide +kernel
theorem dX12_number_13 : decode cX12_number 13 = .ok (.invokestatic 232, 3) := by decide +kernel
theorem dX12_number_16 : decode cX12_number 16 = .ok (.ifCond .eq 14, 3) := by decide +kernel
theorem dX12_number_19 : decode cX12_number 19 = .ok (.aload_n 0, 1) := by decide +kernel
theorem dX12_number_20 : decode cX12_number 20 = .ok (.getfield 201, 3) := by decide +kernel
theorem dX12_number_23 : decode cX12_number 23 = .ok (.aload_n 0, 1) := by decide +kernel
theorem dX12_number_24 : decode cX12_number 24 = .ok (.getfield 215, 3) := by decide +kernel
theorem dX12_number_27 : decode cX12_number 27 = .ok (.if_icmp .ne 14, 3) := by decide +kernel
theorem dX12_number_30 : decode cX12_number 30 = .ok (.aload_n 0, 1) := by decide +kernel
theorem dX12_number_31 : decode cX12_number 31 = .ok (.iconst 1, 1) := by decide +kernel
theorem dX12_number_32 : decode cX12_number 32 = .ok (.aload_n 0, 1) := by decide +kernel
theorem dX12_number_33 : decode cX12_number 33 = .ok (.getfield 201, 3) := by decide +kernel
theorem dX12_number_36 : decode cX12_number 36 = .ok (.invokevirtual 225, 3) := by decide +kernel
theorem dX12_number_39 : decode cX12_number 39 = .ok (.iconst 0, 1) := by decide +kernel
theorem dX12_number_40 : decode cX12_number 40 = .ok (.ireturn, 1) := by decide +kernel
theorem dX12_number_41 : decode cX12_number 41 = .ok (.aload_n 0, 1) := by decide +kernel
theorem dX12_number_42 : decode cX12_number 42 = .ok (.getfield 201, 3) := by decide +kernel
theorem dX12_number_45 : decode cX12_number 45 = .ok (.istore_n 3, 1) := by decide +kernel
theorem dX12_number_46 : decode cX12_number 46 = .ok (.iconst 0, 1) := by decide +kernel
theorem dX12_number_47 : decode cX12_number 47 = .ok (.istore 4, 2) := by decide +kernel
theorem dX12_number_49 : decode cX12_number 49 = .ok (.aload_n 0, 1) := by decide +kernel
theorem dX12_number_50 : decode cX12_number 50 = .ok (.getfield 201, 3) := by decide +kernel
theorem dX12_number_53 : decode cX12_number 53 = .ok (.aload_n 0, 1) := by decide +kernel
theorem dX12_number_54 : decode cX12_number 54 = .ok (.getfield 204, 3) := by decide +kernel
theorem dX12_number_57 : decode cX12_number 57 = .ok (.if_icmp .ge 72, 3) := by decide +kernel
theorem dX12_number_60 : decode cX12_number 60 = .ok (.aload_n 0, 1) := by decide +kernel
theorem dX12_number_61 : decode cX12_number 61 = .ok (.getfield 7, 3) := by decide +kernel
theorem dX12_number_64 : decode cX12_number 64 = .ok (.aload_n 0, 1) := by decide +kernel
theorem dX12_number_65 : decode cX12_number 65 = .ok (.getfield 201, 3) := by decide +kernel
theorem dX12_number_68 : decode cX12_number 68 = .ok (.iaload, 1) := by decide +kernel
theorem dX12_number_69 : decode cX12_number 69 = .ok (.invokestatic 232, 3) := by decide +kernel
theorem dX12_number_72 : decode cX12_number 72 = .ok (.ifCond .eq 57, 3) := by decide +kernel
theorem dX12_number_75 : decode cX12_number 75 = .ok (.aload_n 0, 1) := by decide +kernel
theorem dX12_number_76 : decode cX12_number 76 = .ok (.getfield 201, 3) := by decide +kernel
theorem dX12_number_79 : decode cX12_number 79 = .ok (.iload_n 3, 1) := by decide +kernel
theorem dX12_number_80 : decode cX12_number 80 = .ok (.isub, 1) := by decide +kernel
theorem dX12_number_81 : decode cX12_number 81 = .ok (.iconst 4, 1) := by decide +kernel
theorem dX12_number_82 : decode cX12_number 82 = .ok (.if_icmp .ne 14, 3) := by decide +kernel
theorem dX12_number_85 : decode cX12_number 85 = .ok (.aload_n 0, 1) := by decide +kernel
theorem dX12_number_86 : decode cX12_number 86 = .ok (.iconst 1, 1) := by decide +kernel
theorem dX12_number_87 : decode cX12_number 87 = .ok (.aload_n 0, 1) := by decide +kernel
theorem dX12_number_88 : decode cX12_number 88 = .ok (.getfield 201, 3) := by decide +kernel
theorem dX12_number_91 : decode cX12_number 91 = .ok (.invokevirtual 225, 3) := by decide +kernel
theorem dX12_number_94 : decode cX12_number 94 = .ok (.iconst 0, 1) := by decide +kernel
theorem dX12_number_95 : decode cX12_number 95 = .ok (.ireturn, 1) := by decide +kernel
theorem dX12_number_96 : decode cX12_number 96 = .ok (.bipush 10, 2) := by decide +kernel
theorem dX12_number_98 : decode cX12_number 98 = .ok (.iload 4, 2) := by decide +kernel
theorem dX12_number_100 : decode cX12_number 100 = .ok (.imul, 1) := by decide +kernel
theorem dX12_number_101 : decode cX12_number 101 = .ok (.aload_n 0, 1) := by decide +kernel
theorem dX12_number_102 : decode cX12_number 102 = .ok (.getfield 7, 3) := by decide +kernel
theorem dX12_number_105 : decode cX12_number 105 = .ok (.aload_n 0, 1) := by decide +kernel
theorem dX12_number_106 : decode cX12_number 106 = .ok (.getfield 201, 3) := by decide +kernel
theorem dX12_number_109 : decode cX12_number 109 = .ok (.iaload, 1) := by decide +kernel
theorem dX12_number_110 : decode cX12_number 110 = .ok (.iadd, 1) := by decide +kernel
theorem dX12_number_111 : decode cX12_number 111 = .ok (.bipush 48, 2) := by decide +kernel
theorem dX12_number_113 : decode cX12_number 113 = .ok (.isub, 1) := by decide +kernel
theorem dX12_number_114 : decode cX12_number 114 = .ok (.istore 4, 2) := by decide +kernel
theorem dX12_number_116 : decode cX12_number 116 = .ok (.aload_n 0, 1) := by decide +kernel
theorem dX12_number_117 : decode cX12_number 117 = .ok (.dup, 1) := by decide +kernel
theorem dX12_number_118 : decode cX12_number 118 = .ok (.getfield 201, 3) := by decide +kernel
theorem dX12_number_121 : decode cX12_number 121 = .ok (.iconst 1, 1) := by decide +kernel
theorem dX12_number_122 : decode cX12_number 122 = .ok (.iadd, 1) := by decide +kernel
theorem dX12_number_123 : decode cX12_number 123 = .ok (.putfield 201, 3) := by decide +kernel
theorem dX12_number_126 : decode cX12_number 126 = .ok (.goto (-77), 3) := by decide +kernel
theorem dX12_number_129 : decode cX12_number 129 = .ok (.aload_n 0, 1) := by decide +kernel
theorem dX12_number_130 : decode cX12_number 130 = .ok (.aload_n 0, 1) := by decide +kernel
theorem dX12_number_131 : decode cX12_number 131 = .ok (.getfield 201, 3) := by decide +kernel
theorem dX12_number_134 : decode cX12_number 134 = .ok (.putfield 215, 3) := by decide +kernel
theorem dX12_number_137 : decode cX12_number 137 = .ok (.aload_n 0, 1) := by decide +kernel
theorem dX12_number_138 : decode cX12_number 138 = .ok (.iload_n 3, 1) := by decide +kernel
theorem dX12_number_139 : decode cX12_number 139 = .ok (.putfield 235, 3) := by decide +kernel
theorem dX12_number_142 : decode cX12_number 142 = .ok (.iload 4, 2) := by decide +kernel
theorem dX12_number_144 : decode cX12_number 144 = .ok (.i2l, 1) := by decide +kernel
theorem dX12_number_145 : decode cX12_number 145 = .ok (.iload_n 1, 1) := by decide +kernel
theorem dX12_number_146 : decode cX12_number 146 = .ok (.i2l, 1) := by decide +kernel
theorem dX12_number_147 : decode cX12_number 147 = .ok (.iload_n 2, 1) := by decide +kernel
theorem dX12_number_148 : decode cX12_number 148 = .ok (.i2l, 1) := by decide +kernel
theorem dX12_number_149 : decode cX12_number 149 = .ok (.invokestatic 238, 3) := by decide +kernel
theorem dX12_number_152 : decode cX12_number 152 = .ok (.ifCond .ne 12, 3) := by decide +kernel
theorem dX12_number_155 : decode cX12_number 155 = .ok (.aload_n 0, 1) := by decide +kernel
theorem dX12_number_156 : decode cX12_number 156 = .ok (.iconst 2, 1) := by decide +kernel
theorem dX12_number_157 : decode cX12_number 157 = .ok (.aload_n 0, 1) := by decide +kernel
theorem dX12_number_158 : decode cX12_number 158 = .ok (.getfield 235, 3) := by decide +kernel
theorem dX12_number_161 : decode cX12_number 161 = .ok (.invokevirtual 225, 3) := by decide +kernel
theorem dX12_number_164 : decode cX12_number 164 = .ok (.iload 4, 2) := by decide +kernel
theorem dX12_number_166 : decode cX12_number 166 = .ok (.ireturn, 1) := by decide +kernel
set_option maxRecDepth 20000 in
theorem bk_X12_number_0 {d : Nat} {w : hb_W} {Q : Option hb_V → hb_W → Prop} {x1 : Int32} {x2 : Int32} (h : (((hb_fI w 12 5 0) = 0) → hb_O yX12_look cX12_look 1 (some .int) d [hb_r 12 0 0] w (fun rv w1 => hb_R yX12_number cX12_number 5 (some .int) (d + 1) 13 [some (hb_r 12 0 0), some (hb_i x1), some (hb_i x2), none, none] (rv.toList ++ []) w1 Q)) ∧ ((¬ (hb_fI w 12 5 0) = 0) → Q (some (hb_i (0 : Int32))) w)) : hb_R yX12_number cX12_number 5 (some .int) (d + 1) 0 [some (hb_r 12 0 0), some (hb_i x1), some (hb_i x2), none, none] [] w Q := by
  refine hb_aload_n (pc := 0) (i := 0) dX12_number_0 rfl rfl ?_
  refine hb_getIx (pc := 1) (x := hb_fI w 12 5 0) dX12_number_1 fw_X12_195 cw_12 rfl (by decide) rfl rfl ?_
  refine hb_if_eq (pc := 4) (tgt := 9) dX12_number_4 (by decide) (fun c1 => ?_) (fun c1 => ?_)
  · have ht1 := h.1 c1
    refine hb_aload_n (pc := 9) (i := 0) dX12_number_9 rfl rfl ?_
    exact hb_callV (pc := 10) (As := []) (st := []) dX12_number_10 ml_X12_207 mf_X12_look mi_X12_look (ci := 12) rfl rfl (by decide) rfl rfl (Nat.le_of_ble_eq_true rfl) (Nat.le_of_ble_eq_true rfl) ht1 (fun _ _ q => q)
  · have ht1 := h.2 c1
    refine hb_iconst (pc := 7) (v := 0) dX12_number_7 (by decide) ?_
    exact hb_iret (pc := 8) dX12_number_8 rfl ht1
set_option maxRecDepth 20000 in
theorem bk_X12_number_13 {d : Nat} {w : hb_W} {Q : Option hb_V → hb_W → Prop} {x1 : Int32} {x2 : Int32} {xs0 : Int32} (h : hb_O yX12_isDigit cX12_isDigit 1 (some .boolean) d [hb_i xs0] w (fun rv w1 => hb_R yX12_number cX12_number 5 (some .int) (d + 1) 16 [some (hb_r 12 0 0), some (hb_i x1), some (hb_i x2), none, none] (rv.toList ++ []) w1 Q)) : hb_R yX12_number cX12_number 5 (some .int) (d + 1) 13 [some (hb_r 12 0 0), some (hb_i x1), some (hb_i x2), none, none] [hb_i xs0] w Q := by
  exact hb_callS (pc := 13) (As := [hb_i xs0]) (st := []) dX12_number_13 ml_X12_232 mf_X12_isDigit ms_X12_isDigit rfl rfl (Nat.le_of_ble_eq_true rfl) (Nat.le_of_ble_eq_true rfl) h (fun _ _ q => q)
set_option maxRecDepth 20000 in
theorem bk_X12_number_16 {d : Nat} {w : hb_W} {Q : Option hb_V → hb_W → Prop} {x1 : Int32} {x2 : Int32} {xs0 : Int32} (h : ((xs0 = 0) → hb_O yX12_fail cX12_fail 3 none d [hb_r 12 0 0, hb_i (1 : Int32), hb_i (hb_fI w 12 2 0)] w (fun rv w1 => hb_R yX12_number cX12_number 5 (some .int) (d + 1) 39 [some (hb_r 12 0 0), some (hb_i x1), some (hb_i x2), none, none] (rv.toList ++ []) w1 Q)) ∧ ((¬ xs0 = 0) → ((¬ (hb_fI w 12 2 0) = (hb_fI w 12 4 0)) → hb_R yX12_number cX12_number 5 (some .int) (d + 1) 49 [some (hb_r 12 0 0), some (hb_i x1), some (hb_i x2), some (hb_i (hb_fI w 12 2 0)), some (hb_i (0 : Int32))] [] w Q) ∧ (((hb_fI w 12 2 0) = (hb_fI w 12 4 0)) → hb_O yX12_fail cX12_fail 3 none d [hb_r 12 0 0, hb_i (1 : Int32), hb_i (hb_fI w 12 2 0)] w (fun rv w1 => hb_R yX12_number cX12_number 5 (some .int) (d + 1) 39 [some (hb_r 12 0 0), some (hb_i x1), some (hb_i x2), none, none] (rv.toList ++ []) w1 Q)))) : hb_R yX12_number cX12_number 5 (some .int) (d + 1) 16 [some (hb_r 12 0 0), some (hb_i x1), some (hb_i x2), none, none] [hb_i xs0] w Q := by
  refine hb_if_eq (pc := 16) (tgt := 30) dX12_number_16 (by decide) (fun c1 => ?_) (fun c1 => ?_)
  · have ht1 := h.1 c1
    refine hb_aload_n (pc := 30) (i := 0) dX12_number_30 rfl rfl ?_
    refine hb_iconst (pc := 31) (v := 1) dX12_number_31 (by decide) ?_
    refine hb_aload_n (pc := 32) (i := 0) dX12_number_32 rfl rfl ?_
    refine hb_getIx (pc := 33) (x := hb_fI w 12 2 0) dX12_number_33 fw_X12_201 cw_12 rfl (by decide) rfl rfl ?_
    exact hb_callV (pc := 36) (As := [hb_i (1 : Int32), hb_i (hb_fI w 12 2 0)]) (st := []) dX12_number_36 ml_X12_225 mf_X12_fail mi_X12_fail (ci := 12) rfl rfl (by decide) rfl rfl (Nat.le_of_ble_eq_true rfl) (Nat.le_of_ble_eq_true rfl) ht1 (fun _ _ q => q)
  · have ht1 := h.2 c1
    refine hb_aload_n (pc := 19) (i := 0) dX12_number_19 rfl rfl ?_
    refine hb_getIx (pc := 20) (x := hb_fI w 12 2 0) dX12_number_20 fw_X12_201 cw_12 rfl (by decide) rfl rfl ?_
    refine hb_aload_n (pc := 23) (i := 0) dX12_number_23 rfl rfl ?_
    refine hb_getIx (pc := 24) (x := hb_fI w 12 4 0) dX12_number_24 fw_X12_215 cw_12 rfl (by decide) rfl rfl ?_
    refine hb_icmp_ne (pc := 27) (tgt := 41) dX12_number_27 (by decide) (fun c2 => ?_) (fun c2 => ?_)
    · have ht2 := ht1.1 c2
      refine hb_aload_n (pc := 41) (i := 0) dX12_number_41 rfl rfl ?_
      refine hb_getIx (pc := 42) (x := hb_fI w 12 2 0) dX12_number_42 fw_X12_201 cw_12 rfl (by decide) rfl rfl ?_
      refine hb_istore_n (pc := 45) (i := 3) (ls1 := [some (hb_r 12 0 0), some (hb_i x1), some (hb_i x2), some (hb_i (hb_fI w 12 2 0)), none]) dX12_number_45 rfl (by decide) rfl ?_
      refine hb_iconst (pc := 46) (v := 0) dX12_number_46 (by decide) ?_
      refine hb_istore (pc := 47) (i := 4) (ls1 := [some (hb_r 12 0 0), some (hb_i x1), some (hb_i x2), some (hb_i (hb_fI w 12 2 0)), some (hb_i (0 : Int32))]) dX12_number_47 (by decide) rfl ?_
      exact ht2
    · have ht2 := ht1.2 c2
      refine hb_aload_n (pc := 30) (i := 0) dX12_number_30 rfl rfl ?_
      refine hb_iconst (pc := 31) (v := 1) dX12_number_31 (by decide) ?_
      refine hb_aload_n (pc := 32) (i := 0) dX12_number_32 rfl rfl ?_
      refine hb_getIx (pc := 33) (x := hb_fI w 12 2 0) dX12_number_33 fw_X12_201 cw_12 rfl (by decide) rfl rfl ?_
      exact hb_callV (pc := 36) (As := [hb_i (1 : Int32), hb_i (hb_fI w 12 2 0)]) (st := []) dX12_number_36 ml_X12_225 mf_X12_fail mi_X12_fail (ci := 12) rfl rfl (by decide) rfl rfl (Nat.le_of_ble_eq_true rfl) (Nat.le_of_ble_eq_true rfl) ht2 (fun _ _ q => q)
set_option maxRecDepth 20000 in
theorem bk_X12_number_39 {d : Nat} {w : hb_W} {Q : Option hb_V → hb_W → Prop} {x1 : Int32} {x2 : Int32} (h : Q (some (hb_i (0 : Int32))) w) : hb_R yX12_number cX12_number 5 (some .int) (d + 1) 39 [some (hb_r 12 0 0), some (hb_i x1), some (hb_i x2), none, none] [] w Q := by
  refine hb_iconst (pc := 39) (v := 0) dX12_number_39 (by decide) ?_
  exact hb_iret (pc := 40) dX12_number_40 rfl h
set_option maxRecDepth 20000 in
theorem bk_X12_number_49 {d : Nat} {w : hb_W} {Q : Option hb_V → hb_W → Prop} {x1 : Int32} {x2 : Int32} {x3 : Int32} {x4 : Int32} (h : (((hb_fI w 12 3 0) ≤ (hb_fI w 12 2 0)) → hb_O yX12_isIn cX12_isIn 6 (some .boolean) d [hb_l x4.toInt64, hb_l x1.toInt64, hb_l x2.toInt64] (hb_pI (hb_pI w 12 4 0 (hb_fI w 12 2 0)) 12 10 0 x3) (fun rv w1 => hb_R yX12_number cX12_number 5 (some .int) (d + 1) 152 [some (hb_r 12 0 0), some (hb_i x1), some (hb_i x2), some (hb_i x3), some (hb_i x4)] (rv.toList ++ []) w1 Q)) ∧ ((¬ (hb_fI w 12 3 0) ≤ (hb_fI w 12 2 0)) → vp_in (hb_fI w 12 2 0) 1600 ∧ (hb_O yX12_isDigit cX12_isDigit 1 (some .boolean) d [hb_i (hb_aI w 12 1 0 (hb_fI w 12 2 0).toNatClampNeg)] w (fun rv w1 => hb_R yX12_number cX12_number 5 (some .int) (d + 1) 72 [some (hb_r 12 0 0), some (hb_i x1), some (hb_i x2), some (hb_i x3), some (hb_i x4)] (rv.toList ++ []) w1 Q)))) : hb_R yX12_number cX12_number 5 (some .int) (d + 1) 49 [some (hb_r 12 0 0), some (hb_i x1), some (hb_i x2), some (hb_i x3), some (hb_i x4)] [] w Q := by
  refine hb_aload_n (pc := 49) (i := 0) dX12_number_49 rfl rfl ?_
  refine hb_getIx (pc := 50) (x := hb_fI w 12 2 0) dX12_number_50 fw_X12_201 cw_12 rfl (by decide) rfl rfl ?_
  refine hb_aload_n (pc := 53) (i := 0) dX12_number_53 rfl rfl ?_
  refine hb_getIx (pc := 54) (x := hb_fI w 12 3 0) dX12_number_54 fw_X12_204 cw_12 rfl (by decide) rfl rfl ?_
  refine hb_icmp_ge (pc := 57) (tgt := 129) dX12_number_57 (by decide) (fun c1 => ?_) (fun c1 => ?_)
  · have ht1 := h.1 c1
    refine hb_aload_n (pc := 129) (i := 0) dX12_number_129 rfl rfl ?_
    refine hb_aload_n (pc := 130) (i := 0) dX12_number_130 rfl rfl ?_
    refine hb_getIx (pc := 131) (x := hb_fI w 12 2 0) dX12_number_131 fw_X12_201 cw_12 rfl (by decide) rfl rfl ?_
    refine hb_putI (pc := 134) dX12_number_134 fw_X12_215 cw_12 pw_12_4 rfl (by decide) rfl rfl rfl ?_
    refine hb_aload_n (pc := 137) (i := 0) dX12_number_137 rfl rfl ?_
    refine hb_iload_n (pc := 138) (i := 3) dX12_number_138 rfl rfl ?_
    refine hb_putI (pc := 139) dX12_number_139 fw_X12_235 cw_12 pw_12_10 rfl (by decide) rfl rfl rfl ?_
    refine hb_iload (pc := 142) dX12_number_142 rfl ?_
    refine hb_i2l (pc := 144) dX12_number_144 ?_
    refine hb_iload_n (pc := 145) (i := 1) dX12_number_145 rfl rfl ?_
    refine hb_i2l (pc := 146) dX12_number_146 ?_
    refine hb_iload_n (pc := 147) (i := 2) dX12_number_147 rfl rfl ?_
    refine hb_i2l (pc := 148) dX12_number_148 ?_
    exact hb_callS (pc := 149) (As := [hb_l x4.toInt64, hb_l x1.toInt64, hb_l x2.toInt64]) (st := []) dX12_number_149 ml_X12_238 mf_X12_isIn ms_X12_isIn rfl rfl (Nat.le_of_ble_eq_true rfl) (Nat.le_of_ble_eq_true rfl) ht1 (fun _ _ q => q)
  · have ht1 := h.2 c1
    refine hb_aload_n (pc := 60) (i := 0) dX12_number_60 rfl rfl ?_
    refine hb_getR (pc := 61) (g1 := 0) dX12_number_61 fw_X12_7 cw_12 rfl (by decide) rfl (by decide) rfl ?_
    refine hb_aload_n (pc := 64) (i := 0) dX12_number_64 rfl rfl ?_
    refine hb_getIx (pc := 65) (x := hb_fI w 12 2 0) dX12_number_65 fw_X12_201 cw_12 rfl (by decide) rfl rfl ?_
    obtain ⟨ho2, hr2⟩ := ht1
    refine hb_ialdx (pc := 68) (x := hb_aI w 12 1 0 (hb_fI w 12 2 0).toNatClampNeg) dX12_number_68 rfl (by decide) ho2 rfl ?_
    exact hb_callS (pc := 69) (As := [hb_i (hb_aI w 12 1 0 (hb_fI w 12 2 0).toNatClampNeg)]) (st := []) dX12_number_69 ml_X12_232 mf_X12_isDigit ms_X12_isDigit rfl rfl (Nat.le_of_ble_eq_true rfl) (Nat.le_of_ble_eq_true rfl) hr2 (fun _ _ q => q)
set_option maxRecDepth 20000 in
theorem bk_X12_number_72 {d : Nat} {w : hb_W} {Q : Option hb_V → hb_W → Prop} {x1 : Int32} {x2 : Int32} {x3 : Int32} {x4 : Int32} {xs0 : Int32} (h : ((xs0 = 0) → hb_O yX12_isIn cX12_isIn 6 (some .boolean) d [hb_l x4.toInt64, hb_l x1.toInt64, hb_l x2.toInt64] (hb_pI (hb_pI w 12 4 0 (hb_fI w 12 2 0)) 12 10 0 x3) (fun rv w1 => hb_R yX12_number cX12_number 5 (some .int) (d + 1) 152 [some (hb_r 12 0 0), some (hb_i x1), some (hb_i x2), some (hb_i x3), some (hb_i x4)] (rv.toList ++ []) w1 Q)) ∧ ((¬ xs0 = 0) → ((¬ ((hb_fI w 12 2 0) - x3) = (4 : Int32)) → vp_in (hb_fI w 12 2 0) 1600 ∧ (hb_R yX12_number cX12_number 5 (some .int) (d + 1) 49 [some (hb_r 12 0 0), some (hb_i x1), some (hb_i x2), some (hb_i x3), some (hb_i ((((10 : Int32) * x4) + (hb_aI w 12 1 0 (hb_fI w 12 2 0).toNatClampNeg)) - (48 : Int32)))] [] (hb_pI w 12 2 0 ((hb_fI w 12 2 0) + (1 : Int32))) Q)) ∧ ((((hb_fI w 12 2 0) - x3) = (4 : Int32)) → hb_O yX12_fail cX12_fail 3 none d [hb_r 12 0 0, hb_i (1 : Int32), hb_i (hb_fI w 12 2 0)] w (fun rv w1 => hb_R yX12_number cX12_number 5 (some .int) (d + 1) 94 [some (hb_r 12 0 0), some (hb_i x1), some (hb_i x2), some (hb_i x3), some (hb_i x4)] (rv.toList ++ []) w1 Q)))) : hb_R yX12_number cX12_number 5 (some .int) (d + 1) 72 [some (hb_r 12 0 0), some (hb_i x1), some (hb_i x2), some (hb_i x3), some (hb_i x4)] [hb_i xs0] w Q := by
  refine hb_if_eq (pc := 72) (tgt := 129) dX12_number_72 (by decide) (fun c1 => ?_) (fun c1 => ?_)
  · have ht1 := h.1 c1
    refine hb_aload_n (pc := 129) (i := 0) dX12_number_129 rfl rfl ?_
    refine hb_aload_n (pc := 130) (i := 0) dX12_number_130 rfl rfl ?_
    refine hb_getIx (pc := 131) (x := hb_fI w 12 2 0) dX12_number_131 fw_X12_201 cw_12 rfl (by decide) rfl rfl ?_
    refine hb_putI (pc := 134) dX12_number_134 fw_X12_215 cw_12 pw_12_4 rfl (by decide) rfl rfl rfl ?_
    refine hb_aload_n (pc := 137) (i := 0) dX12_number_137 rfl rfl ?_
    refine hb_iload_n (pc := 138) (i := 3) dX12_number_138 rfl rfl ?_
    refine hb_putI (pc := 139) dX12_number_139 fw_X12_235 cw_12 pw_12_10 rfl (by decide) rfl rfl rfl ?_
    refine hb_iload (pc := 142) dX12_number_142 rfl ?_
    refine hb_i2l (pc := 144) dX12_number_144 ?_
    refine hb_iload_n (pc := 145) (i := 1) dX12_number_145 rfl rfl ?_
    refine hb_i2l (pc := 146) dX12_number_146 ?_
    refine hb_iload_n (pc := 147) (i := 2) dX12_number_147 rfl rfl ?_
    refine hb_i2l (pc := 148) dX12_number_148 ?_
    exact hb_callS (pc := 149) (As := [hb_l x4.toInt64, hb_l x1.toInt64, hb_l x2.toInt64]) (st := []) dX12_number_149 ml_X12_238 mf_X12_isIn ms_X12_isIn rfl rfl (Nat.le_of_ble_eq_true rfl) (Nat.le_of_ble_eq_true rfl) ht1 (fun _ _ q => q)
  · have ht1 := h.2 c1
    refine hb_aload_n (pc := 75) (i := 0) dX12_number_75 rfl rfl ?_
    refine hb_getIx (pc := 76) (x := hb_fI w 12 2 0) dX12_number_76 fw_X12_201 cw_12 rfl (by decide) rfl rfl ?_
    refine hb_iload_n (pc := 79) (i := 3) dX12_number_79 rfl rfl ?_
    refine hb_isub (pc := 80) dX12_number_80 ?_
    refine hb_iconst (pc := 81) (v := 4) dX12_number_81 (by decide) ?_
    refine hb_icmp_ne (pc := 82) (tgt := 96) dX12_number_82 (by decide) (fun c2 => ?_) (fun c2 => ?_)
    · have ht2 := ht1.1 c2
      refine hb_bipush (pc := 96) (v := 10) dX12_number_96 (by decide) ?_
      refine hb_iload (pc := 98) dX12_number_98 rfl ?_
      refine hb_imul (pc := 100) dX12_number_100 ?_
      refine hb_aload_n (pc := 101) (i := 0) dX12_number_101 rfl rfl ?_
      refine hb_getR (pc := 102) (g1 := 0) dX12_number_102 fw_X12_7 cw_12 rfl (by decide) rfl (by decide) rfl ?_
      refine hb_aload_n (pc := 105) (i := 0) dX12_number_105 rfl rfl ?_
      refine hb_getIx (pc := 106) (x := hb_fI w 12 2 0) dX12_number_106 fw_X12_201 cw_12 rfl (by decide) rfl rfl ?_
      obtain ⟨ho3, hr3⟩ := ht2
      refine hb_ialdx (pc := 109) (x := hb_aI w 12 1 0 (hb_fI w 12 2 0).toNatClampNeg) dX12_number_109 rfl (by decide) ho3 rfl ?_
      refine hb_iadd (pc := 110) dX12_number_110 ?_
      refine hb_bipush (pc := 111) (v := 48) dX12_number_111 (by decide) ?_
      refine hb_isub (pc := 113) dX12_number_113 ?_
      refine hb_istore (pc := 114) (i := 4) (ls1 := [some (hb_r 12 0 0), some (hb_i x1), some (hb_i x2), some (hb_i x3), some (hb_i ((((10 : Int32) * x4) + (hb_aI w 12 1 0 (hb_fI w 12 2 0).toNatClampNeg)) - (48 : Int32)))]) dX12_number_114 (by decide) rfl ?_
      refine hb_aload_n (pc := 116) (i := 0) dX12_number_116 rfl rfl ?_
      refine hb_dupr (pc := 117) dX12_number_117 ?_
      refine hb_getIx (pc := 118) (x := hb_fI w 12 2 0) dX12_number_118 fw_X12_201 cw_12 rfl (by decide) rfl rfl ?_
      refine hb_iconst (pc := 121) (v := 1) dX12_number_121 (by decide) ?_
      refine hb_iadd (pc := 122) dX12_number_122 ?_
      refine hb_putI (pc := 123) dX12_number_123 fw_X12_201 cw_12 pw_12_2 rfl (by decide) rfl rfl rfl ?_
      refine hb_goto (pc := 126) (tgt := 49) dX12_number_126 (by decide) ?_
      exact hr3
    · have ht2 := ht1.2 c2
      refine hb_aload_n (pc := 85) (i := 0) dX12_number_85 rfl rfl ?_
      refine hb_iconst (pc := 86) (v := 1) dX12_number_86 (by decide) ?_
      refine hb_aload_n (pc := 87) (i := 0) dX12_number_87 rfl rfl ?_
      refine hb_getIx (pc := 88) (x := hb_fI w 12 2 0) dX12_number_88 fw_X12_201 cw_12 rfl (by decide) rfl rfl ?_
      exact hb_callV (pc := 91) (As := [hb_i (1 : Int32), hb_i (hb_fI w 12 2 0)]) (st := []) dX12_number_91 ml_X12_225 mf_X12_fail mi_X12_fail (ci := 12) rfl rfl (by decide) rfl rfl (Nat.le_of_ble_eq_true rfl) (Nat.le_of_ble_eq_true rfl) ht2 (fun _ _ q => q)
set_option maxRecDepth 20000 in
theorem bk_X12_number_94 {d : Nat} {w : hb_W} {Q : Option hb_V → hb_W → Prop} {x1 : Int32} {x2 : Int32} {x3 : Int32} {x4 : Int32} (h : Q (some (hb_i (0 : Int32))) w) : hb_R yX12_number cX12_number 5 (some .int) (d + 1) 94 [some (hb_r 12 0 0), some (hb_i x1), some (hb_i x2), some (hb_i x3), some (hb_i x4)] [] w Q := by
  refine hb_iconst (pc := 94) (v := 0) dX12_number_94 (by decide) ?_
  exact hb_iret (pc := 95) dX12_number_95 rfl h
set_option maxRecDepth 20000 in
theorem bk_X12_number_152 {d : Nat} {w : hb_W} {Q : Option hb_V → hb_W → Prop} {x1 : Int32} {x2 : Int32} {x3 : Int32} {x4 : Int32} {xs0 : Int32} (h : ((¬ xs0 = 0) → hb_R yX12_number cX12_number 5 (some .int) (d + 1) 164 [some (hb_r 12 0 0), some (hb_i x1), some (hb_i x2), some (hb_i x3), some (hb_i x4)] [] w Q) ∧ ((xs0 = 0) → hb_O yX12_fail cX12_fail 3 none d [hb_r 12 0 0, hb_i (2 : Int32), hb_i (hb_fI w 12 10 0)] w (fun rv w1 => hb_R yX12_number cX12_number 5 (some .int) (d + 1) 164 [some (hb_r 12 0 0), some (hb_i x1), some (hb_i x2), some (hb_i x3), some (hb_i x4)] (rv.toList ++ []) w1 Q))) : hb_R yX12_number cX12_number 5 (some .int) (d + 1) 152 [some (hb_r 12 0 0), some (hb_i x1), some (hb_i x2), some (hb_i x3), some (hb_i x4)] [hb_i xs0] w Q := by
  refine hb_if_ne (pc := 152) (tgt := 164) dX12_number_152 (by decide) (fun c1 => ?_) (fun c1 => ?_)
  · have ht1 := h.1 c1
    exact ht1
  · have ht1 := h.2 c1
    refine hb_aload_n (pc := 155) (i := 0) dX12_number_155 rfl rfl ?_
    refine hb_iconst (pc := 156) (v := 2) dX12_number_156 (by decide) ?_
    refine hb_aload_n (pc := 157) (i := 0) dX12_number_157 rfl rfl ?_
    refine hb_getIx (pc := 158) (x := hb_fI w 12 10 0) dX12_number_158 fw_X12_235 cw_12 rfl (by decide) rfl rfl ?_
    exact hb_callV (pc := 161) (As := [hb_i (2 : Int32), hb_i (hb_fI w 12 10 0)]) (st := []) dX12_number_161 ml_X12_225 mf_X12_fail mi_X12_fail (ci := 12) rfl rfl (by decide) rfl rfl (Nat.le_of_ble_eq_true rfl) (Nat.le_of_ble_eq_true rfl) ht1 (fun _ _ q => q)
set_option maxRecDepth 20000 in
theorem bk_X12_number_164 {d : Nat} {w : hb_W} {Q : Option hb_V → hb_W → Prop} {x1 : Int32} {x2 : Int32} {x3 : Int32} {x4 : Int32} (h : Q (some (hb_i x4)) w) : hb_R yX12_number cX12_number 5 (some .int) (d + 1) 164 [some (hb_r 12 0 0), some (hb_i x1), some (hb_i x2), some (hb_i x3), some (hb_i x4)] [] w Q := by
  refine hb_iload (pc := 164) dX12_number_164 rfl ?_
  exact hb_iret (pc := 166) dX12_number_166 rfl h
theorem dX12_isAllowed_0 : decode cX12_isAllowed 0 = .ok (.aload_n 0, 1) := by decide +kernel
theorem dX12_isAllowed_1 : decode cX12_isAllowed 1 = .ok (.getfield 242, 3) := by decide +kernel
theorem dX12_isAllowed_4 : decode cX12_isAllowed 4 = .ok (.ifCond .ne 16, 3) := by decide +kernel
theorem dX12_isAllowed_7 : decode cX12_isAllowed 7 = .ok (.iload_n 1, 1) := by decide +kernel
theorem dX12_isAllowed_8 : decode cX12_isAllowed 8 = .ok (.iconst 2, 1) := by decide +kernel
theorem dX12_isAllowed_9 : decode cX12_isAllowed 9 = .ok (.if_icmp .ge 7, 3) := by decide +kernel
theorem dX12_isAllowed_12 : decode cX12_isAllowed 12 = .ok (.iconst 1, 1) := by decide +kernel
theorem dX12_isAllowed_13 : decode cX12_isAllowed 13 = .ok (.goto 51, 3) := by decide +kernel
theorem dX12_isAllowed_16 : decode cX12_isAllowed 16 = .ok (.iconst 0, 1) := by decide +kernel
theorem dX12_isAllowed_17 : decode cX12_isAllowed 17 = .ok (.goto 47, 3) := by decide +kernel
theorem dX12_isAllowed_20 : decode cX12_isAllowed 20 = .ok (.aload_n 0, 1) := by decide +kernel
theorem dX12_isAllowed_21 : decode cX12_isAllowed 21 = .ok (.getfield 242, 3) := by decide +kernel
theorem dX12_isAllowed_24 : decode cX12_isAllowed 24 = .ok (.iconst 1, 1) := by decide +kernel
theorem dX12_isAllowed_25 : decode cX12_isAllowed 25 = .ok (.if_icmp .ne 25, 3) := by decide +kernel
theorem dX12_isAllowed_28 : decode cX12_isAllowed 28 = .ok (.iload_n 1, 1) := by decide +kernel
theorem dX12_isAllowed_29 : decode cX12_isAllowed 29 = .ok (.ifCond .eq 13, 3) := by decide +kernel
theorem dX12_isAllowed_32 : decode cX12_isAllowed 32 = .ok (.iload_n 1, 1) := by decide +kernel
theorem dX12_isAllowed_33 : decode cX12_isAllowed 33 = .ok (.iconst 2, 1) := by decide +kernel
theorem dX12_isAllowed_34 : decode cX12_isAllowed 34 = .ok (.if_icmp .eq 8, 3) := by decide +kernel
theorem dX12_isAllowed_37 : decode cX12_isAllowed 37 = .ok (.iload_n 1, 1) := by decide +kernel
theorem dX12_isAllowed_38 : decode cX12_isAllowed 38 = .ok (.iconst 3, 1) := by decide +kernel
theorem dX12_isAllowed_39 : decode cX12_isAllowed 39 = .ok (.if_icmp .ne 7, 3) := by decide +kernel
theorem dX12_isAllowed_42 : decode cX12_isAllowed 42 = .ok (.iconst 1, 1) := by decide +kernel
theorem dX12_isAllowed_43 : decode cX12_isAllowed 43 = .ok (.goto 21, 3) := by decide +kernel
theorem dX12_isAllowed_46 : decode cX12_isAllowed 46 = .ok (.iconst 0, 1) := by decide +kernel
theorem dX12_isAllowed_47 : decode cX12_isAllowed 47 = .ok (.goto 17, 3) := by decide +kernel
theorem dX12_isAllowed_50 : decode cX12_isAllowed 50 = .ok (.iload_n 1, 1) := by decide +kernel
theorem dX12_isAllowed_51 : decode cX12_isAllowed 51 = .ok (.ifCond .eq 8, 3) := by decide +kernel
theorem dX12_isAllowed_54 : decode cX12_isAllowed 54 = .ok (.iload_n 1, 1) := by decide +kernel
theorem dX12_isAllowed_55 : decode cX12_isAllowed 55 = .ok (.iconst 2, 1) := by decide +kernel
theorem dX12_isAllowed_56 : decode cX12_isAllowed 56 = .ok (.if_icmp .le 7, 3) := by decide +kernel
theorem dX12_isAllowed_59 : decode cX12_isAllowed 59 = .ok (.iconst 1, 1) := by decide +kernel
theorem dX12_isAllowed_60 : decode cX12_isAllowed 60 = .ok (.goto 4, 3) := by decide +kernel
theorem dX12_isAllowed_63 : decode cX12_isAllowed 63 = .ok (.iconst 0, 1) := by decide +kernel
theorem dX12_isAllowed_64 : decode cX12_isAllowed 64 = .ok (.ireturn, 1) := by decide +kernel
set_option maxRecDepth 20000 in
theorem bk_X12_isAllowed_0 {d : Nat} {w : hb_W} {Q : Option hb_V → hb_W → Prop} {x1 : Int32} (h : ((¬ (hb_fI w 12 31 0) = 0) → ((¬ (hb_fI w 12 31 0) = (1 : Int32)) → ((x1 = 0) → Q (some (hb_i (1 : Int32))) w) ∧ ((¬ x1 = 0) → ((x1 ≤ (2 : Int32)) → Q (some (hb_i (0 : Int32))) w) ∧ ((¬ x1 ≤ (2 : Int32)) → Q (some (hb_i (1 : Int32))) w))) ∧ (((hb_fI w 12 31 0) = (1 : Int32)) → ((x1 = 0) → Q (some (hb_i (1 : Int32))) w) ∧ ((¬ x1 = 0) → ((x1 = (2 : Int32)) → Q (some (hb_i (1 : Int32))) w) ∧ ((¬ x1 = (2 : Int32)) → ((¬ x1 = (3 : Int32)) → Q (some (hb_i (0 : Int32))) w) ∧ ((x1 = (3 : Int32)) → Q (some (hb_i (1 : Int32))) w))))) ∧ (((hb_fI w 12 31 0) = 0) → (((2 : Int32) ≤ x1) → Q (some (hb_i (0 : Int32))) w) ∧ ((¬ (2 : Int32) ≤ x1) → Q (some (hb_i (1 : Int32))) w))) : hb_R yX12_isAllowed cX12_isAllowed 2 (some .boolean) d 0 [some (hb_r 12 0 0), some (hb_i x1)] [] w Q := by
  refine hb_aload_n (pc := 0) (i := 0) dX12_isAllowed_0 rfl rfl ?_
  refine hb_getIx (pc := 1) (x := hb_fI w 12 31 0) dX12_isAllowed_1 fw_X12_242 cw_12 rfl (by decide) rfl rfl ?_
  refine hb_if_ne (pc := 4) (tgt := 20) dX12_isAllowed_4 (by decide) (fun c1 => ?_) (fun c1 => ?_)
  · have ht1 := h.1 c1
    refine hb_aload_n (pc := 20) (i := 0) dX12_isAllowed_20 rfl rfl ?_
    refine hb_getIx (pc := 21) (x := hb_fI w 12 31 0) dX12_isAllowed_21 fw_X12_242 cw_12 rfl (by decide) rfl rfl ?_
    refine hb_iconst (pc := 24) (v := 1) dX12_isAllowed_24 (by decide) ?_
    refine hb_icmp_ne (pc := 25) (tgt := 50) dX12_isAllowed_25 (by decide) (fun c2 => ?_) (fun c2 => ?_)
    · have ht2 := ht1.1 c2
      refine hb_iload_n (pc := 50) (i := 1) dX12_isAllowed_50 rfl rfl ?_
      refine hb_if_eq (pc := 51) (tgt := 59) dX12_isAllowed_51 (by decide) (fun c3 => ?_) (fun c3 => ?_)
      · have ht3 := ht2.1 c3
        refine hb_iconst (pc := 59) (v := 1) dX12_isAllowed_59 (by decide) ?_
        refine hb_goto (pc := 60) (tgt := 64) dX12_isAllowed_60 (by decide) ?_
        exact hb_zret (pc := 64) dX12_isAllowed_64 rfl (Or.inr rfl) ht3
      · have ht3 := ht2.2 c3
        refine hb_iload_n (pc := 54) (i := 1) dX12_isAllowed_54 rfl rfl ?_
        refine hb_iconst (pc := 55) (v := 2) dX12_isAllowed_55 (by decide) ?_
        refine hb_icmp_le (pc := 56) (tgt := 63) dX12_isAllowed_56 (by decide) (fun c4 => ?_) (fun c4 => ?_)
        · have ht4 := ht3.1 c4
          refine hb_iconst (pc := 63) (v := 0) dX12_isAllowed_63 (by decide) ?_
          exact hb_zret (pc := 64) dX12_isAllowed_64 rfl (Or.inl rfl) ht4
        · have ht4 := ht3.2 c4
          refine hb_iconst (pc := 59) (v := 1) dX12_isAllowed_59 (by decide) ?_
          refine hb_goto (pc := 60) (tgt := 64) dX12_isAllowed_60 (by decide) ?_
          exact hb_zret (pc := 64) dX12_isAllowed_64 rfl (Or.inr rfl) ht4
    · have ht2 := ht1.2 c2
      refine hb_iload_n (pc := 28) (i := 1) dX12_isAllowed_28 rfl rfl ?_
      refine hb_if_eq (pc := 29) (tgt := 42) dX12_isAllowed_29 (by decide) (fun c5 => ?_) (fun c5 => ?_)
      · have ht5 := ht2.1 c5
        refine hb_iconst (pc := 42) (v := 1) dX12_isAllowed_42 (by decide) ?_
        refine hb_goto (pc := 43) (tgt := 64) dX12_isAllowed_43 (by decide) ?_
        exact hb_zret (pc := 64) dX12_isAllowed_64 rfl (Or.inr rfl) ht5
      · have ht5 := ht2.2 c5
        refine hb_iload_n (pc := 32) (i := 1) dX12_isAllowed_32 rfl rfl ?_
        refine hb_iconst (pc := 33) (v := 2) dX12_isAllowed_33 (by decide) ?_
        refine hb_icmp_eq (pc := 34) (tgt := 42) dX12_isAllowed_34 (by decide) (fun c6 => ?_) (fun c6 => ?_)
        · have ht6 := ht5.1 c6
          refine hb_iconst (pc := 42) (v := 1) dX12_isAllowed_42 (by decide) ?_
          refine hb_goto (pc := 43) (tgt := 64) dX12_isAllowed_43 (by decide) ?_
          exact hb_zret (pc := 64) dX12_isAllowed_64 rfl (Or.inr rfl) ht6
        · have ht6 := ht5.2 c6
          refine hb_iload_n (pc := 37) (i := 1) dX12_isAllowed_37 rfl rfl ?_
          refine hb_iconst (pc := 38) (v := 3) dX12_isAllowed_38 (by decide) ?_
          refine hb_icmp_ne (pc := 39) (tgt := 46) dX12_isAllowed_39 (by decide) (fun c7 => ?_) (fun c7 => ?_)
          · have ht7 := ht6.1 c7
            refine hb_iconst (pc := 46) (v := 0) dX12_isAllowed_46 (by decide) ?_
            refine hb_goto (pc := 47) (tgt := 64) dX12_isAllowed_47 (by decide) ?_
            exact hb_zret (pc := 64) dX12_isAllowed_64 rfl (Or.inl rfl) ht7
          · have ht7 := ht6.2 c7
            refine hb_iconst (pc := 42) (v := 1) dX12_isAllowed_42 (by decide) ?_
            refine hb_goto (pc := 43) (tgt := 64) dX12_isAllowed_43 (by decide) ?_
            exact hb_zret (pc := 64) dX12_isAllowed_64 rfl (Or.inr rfl) ht7
  · have ht1 := h.2 c1
    refine hb_iload_n (pc := 7) (i := 1) dX12_isAllowed_7 rfl rfl ?_
    refine hb_iconst (pc := 8) (v := 2) dX12_isAllowed_8 (by decide) ?_
    refine hb_icmp_ge (pc := 9) (tgt := 16) dX12_isAllowed_9 (by decide) (fun c8 => ?_) (fun c8 => ?_)
    · have ht8 := ht1.1 c8
      refine hb_iconst (pc := 16) (v := 0) dX12_isAllowed_16 (by decide) ?_
      refine hb_goto (pc := 17) (tgt := 64) dX12_isAllowed_17 (by decide) ?_
      exact hb_zret (pc := 64) dX12_isAllowed_64 rfl (Or.inl rfl) ht8
    · have ht8 := ht1.2 c8
      refine hb_iconst (pc := 12) (v := 1) dX12_isAllowed_12 (by decide) ?_
      refine hb_goto (pc := 13) (tgt := 64) dX12_isAllowed_13 (by decide) ?_
      exact hb_zret (pc := 64) dX12_isAllowed_64 rfl (Or.inr rfl) ht8
theorem dX12_bookTold_0 : decode cX12_bookTold 0 = .ok (.aload_n 0, 1) := by decide +kernel
theorem dX12_bookTold_1 : decode cX12_bookTold 1 = .ok (.aload_n 0, 1) := by decide +kernel
theorem dX12_bookTold_2 : decode cX12_bookTold 2 = .ok (.getfield 20, 3) := by decide +kernel
theorem dX12_bookTold_5 : decode cX12_bookTold 5 = .ok (.invokevirtual 245, 3) := by decide +kernel
theorem dX12_bookTold_8 : decode cX12_bookTold 8 = .ok (.aload_n 0, 1) := by decide +kernel
theorem dX12_bookTold_9 : decode cX12_bookTold 9 = .ok (.aload_n 0, 1) := by decide +kernel
theorem dX12_bookTold_10 : decode cX12_bookTold 10 = .ok (.getfield 24, 3) := by decide +kernel
theorem dX12_bookTold_13 : decode cX12_bookTold 13 = .ok (.invokevirtual 245, 3) := by decide +kernel
theorem dX12_bookTold_16 : decode cX12_bookTold 16 = .ok (.aload_n 0, 1) := by decide +kernel
theorem dX12_bookTold_17 : decode cX12_bookTold 17 = .ok (.getfield 51, 3) := by decide +kernel
theorem dX12_bookTold_20 : decode cX12_bookTold 20 = .ok (.iconst 0, 1) := by decide +kernel
theorem dX12_bookTold_21 : decode cX12_bookTold 21 = .ok (.aload_n 0, 1) := by decide +kernel
theorem dX12_bookTold_22 : decode cX12_bookTold 22 = .ok (.iconst 1, 1) := by decide +kernel
theorem dX12_bookTold_23 : decode cX12_bookTold 23 = .ok (.bipush 9, 2) := by decide +kernel
theorem dX12_bookTold_25 : decode cX12_bookTold 25 = .ok (.invokevirtual 249, 3) := by decide +kernel
theorem dX12_bookTold_28 : decode cX12_bookTold 28 = .ok (.iastore, 1) := by decide +kernel
theorem dX12_bookTold_29 : decode cX12_bookTold 29 = .ok (.aload_n 0, 1) := by decide +kernel
theorem dX12_bookTold_30 : decode cX12_bookTold 30 = .ok (.aload_n 0, 1) := by decide +kernel
theorem dX12_bookTold_31 : decode cX12_bookTold 31 = .ok (.getfield 27, 3) := by decide +kernel
theorem dX12_bookTold_34 : decode cX12_bookTold 34 = .ok (.invokevirtual 245, 3) := by decide +kernel
theorem dX12_bookTold_37 : decode cX12_bookTold 37 = .ok (.aload_n 0, 1) := by decide +kernel
theorem dX12_bookTold_38 : decode cX12_bookTold 38 = .ok (.getfield 51, 3) := by decide +kernel
theorem dX12_bookTold_41 : decode cX12_bookTold 41 = .ok (.iconst 1, 1) := by decide +kernel
theorem dX12_bookTold_42 : decode cX12_bookTold 42 = .ok (.aload_n 0, 1) := by decide +kernel
theorem dX12_bookTold_43 : decode cX12_bookTold 43 = .ok (.iconst 1, 1) := by decide +kernel
theorem dX12_bookTold_44 : decode cX12_bookTold 44 = .ok (.iconst 3, 1) := by decide +kernel
theorem dX12_bookTold_45 : decode cX12_bookTold 45 = .ok (.invokevirtual 249, 3) := by decide +kernel
theorem dX12_bookTold_48 : decode cX12_bookTold 48 = .ok (.iastore, 1) := by decide +kernel
theorem dX12_bookTold_49 : decode cX12_bookTold 49 = .ok (.aload_n 0, 1) := by decide +kernel
theorem dX12_bookTold_50 : decode cX12_bookTold 50 = .ok (.bipush 59, 2) := by decide +kernel
theorem dX12_bookTold_52 : decode cX12_bookTold 52 = .ok (.invokevirtual 253, 3) := by decide +kernel
theorem dX12_bookTold_55 : decode cX12_bookTold 55 = .ok (.return_, 1) := by decide +kernel
set_option maxRecDepth 20000 in
theorem bk_X12_bookTold_0 {d : Nat} {w : hb_W} {Q : Option hb_V → hb_W → Prop} (h : hb_O yX12_asks cX12_asks 2 none d [hb_r 12 0 0, hb_r 12 0 3] w (fun rv w1 => hb_R yX12_bookTold cX12_bookTold 1 none (d + 1) 8 [some (hb_r 12 0 0)] (rv.toList ++ []) w1 Q)) : hb_R yX12_bookTold cX12_bookTold 1 none (d + 1) 0 [some (hb_r 12 0 0)] [] w Q := by
  refine hb_aload_n (pc := 0) (i := 0) dX12_bookTold_0 rfl rfl ?_
  refine hb_aload_n (pc := 1) (i := 0) dX12_bookTold_1 rfl rfl ?_
  refine hb_getR (pc := 2) (g1 := 0) dX12_bookTold_2 fw_X12_20 cw_12 rfl (by decide) rfl (by decide) rfl ?_
  exact hb_callV (pc := 5) (As := [hb_r 12 0 3]) (st := []) dX12_bookTold_5 ml_X12_245 mf_X12_asks mi_X12_asks (ci := 12) rfl rfl (by decide) rfl rfl (Nat.le_of_ble_eq_true rfl) (Nat.le_of_ble_eq_true rfl) h (fun _ _ q => q)
set_option maxRecDepth 20000 in
theorem bk_X12_bookTold_8 {d : Nat} {w : hb_W} {Q : Option hb_V → hb_W → Prop} (h : hb_O yX12_asks cX12_asks 2 none d [hb_r 12 0 0, hb_r 12 0 4] w (fun rv w1 => hb_R yX12_bookTold cX12_bookTold 1 none (d + 1) 16 [some (hb_r 12 0 0)] (rv.toList ++ []) w1 Q)) : hb_R yX12_bookTold cX12_bookTold 1 none (d + 1) 8 [some (hb_r 12 0 0)] [] w Q := by
  refine hb_aload_n (pc := 8) (i := 0) dX12_bookTold_8 rfl rfl ?_
  refine hb_aload_n (pc := 9) (i := 0) dX12_bookTold_9 rfl rfl ?_
  refine hb_getR (pc := 10) (g1 := 0) dX12_bookTold_10 fw_X12_24 cw_12 rfl (by decide) rfl (by decide) rfl ?_
  exact hb_callV (pc := 13) (As := [hb_r 12 0 4]) (st := []) dX12_bookTold_13 ml_X12_245 mf_X12_asks mi_X12_asks (ci := 12) rfl rfl (by decide) rfl rfl (Nat.le_of_ble_eq_true rfl) (Nat.le_of_ble_eq_true rfl) h (fun _ _ q => q)
set_option maxRecDepth 20000 in
theorem bk_X12_bookTold_16 {d : Nat} {w : hb_W} {Q : Option hb_V → hb_W → Prop} (h : hb_O yX12_number cX12_number 5 (some .int) d [hb_r 12 0 0, hb_i (1 : Int32), hb_i (9 : Int32)] w (fun rv w1 => hb_R yX12_bookTold cX12_bookTold 1 none (d + 1) 28 [some (hb_r 12 0 0)] (rv.toList ++ [hb_i (0 : Int32), hb_r 12 0 13]) w1 Q)) : hb_R yX12_bookTold cX12_bookTold 1 none (d + 1) 16 [some (hb_r 12 0 0)] [] w Q := by
  refine hb_aload_n (pc := 16) (i := 0) dX12_bookTold_16 rfl rfl ?_
  refine hb_getR (pc := 17) (g1 := 0) dX12_bookTold_17 fw_X12_51 cw_12 rfl (by decide) rfl (by decide) rfl ?_
  refine hb_iconst (pc := 20) (v := 0) dX12_bookTold_20 (by decide) ?_
  refine hb_aload_n (pc := 21) (i := 0) dX12_bookTold_21 rfl rfl ?_
  refine hb_iconst (pc := 22) (v := 1) dX12_bookTold_22 (by decide) ?_
  refine hb_bipush (pc := 23) (v := 9) dX12_bookTold_23 (by decide) ?_
  exact hb_callV (pc := 25) (As := [hb_i (1 : Int32), hb_i (9 : Int32)]) (st := [hb_i (0 : Int32), hb_r 12 0 13]) dX12_bookTold_25 ml_X12_249 mf_X12_number mi_X12_number (ci := 12) rfl rfl (by decide) rfl rfl (Nat.le_of_ble_eq_true rfl) (Nat.le_of_ble_eq_true rfl) h (fun _ _ q => q)
set_option maxRecDepth 20000 in
theorem bk_X12_bookTold_28 {d : Nat} {w : hb_W} {Q : Option hb_V → hb_W → Prop} {xs1 : Int32} {xs2 : Int32} (h : vp_in xs1 6 ∧ (hb_O yX12_asks cX12_asks 2 none d [hb_r 12 0 0, hb_r 12 0 5] (hb_sI w 12 13 0 (upd (hb_aI w 12 13 0) xs1.toNatClampNeg xs2)) (fun rv w1 => hb_R yX12_bookTold cX12_bookTold 1 none (d + 1) 37 [some (hb_r 12 0 0)] (rv.toList ++ []) w1 Q))) : hb_R yX12_bookTold cX12_bookTold 1 none (d + 1) 28 [some (hb_r 12 0 0)] [hb_i xs2, hb_i xs1, hb_r 12 0 13] w Q := by
  obtain ⟨ho1, hr1⟩ := h
  refine hb_iastx (pc := 28) (f := upd (hb_aI w 12 13 0) xs1.toNatClampNeg xs2) dX12_bookTold_28 rfl (by decide) ho1 rfl ?_
  refine hb_aload_n (pc := 29) (i := 0) dX12_bookTold_29 rfl rfl ?_
  refine hb_aload_n (pc := 30) (i := 0) dX12_bookTold_30 rfl rfl ?_
  refine hb_getR (pc := 31) (g1 := 0) dX12_bookTold_31 fw_X12_27 cw_12 rfl (by decide) rfl (by decide) rfl ?_
  exact hb_callV (pc := 34) (As := [hb_r 12 0 5]) (st := []) dX12_bookTold_34 ml_X12_245 mf_X12_asks mi_X12_asks (ci := 12) rfl rfl (by decide) rfl rfl (Nat.le_of_ble_eq_true rfl) (Nat.le_of_ble_eq_true rfl) hr1 (fun _ _ q => q)
set_option maxRecDepth 20000 in
theorem bk_X12_bookTold_37 {d : Nat} {w : hb_W} {Q : Option hb_V → hb_W → Prop} (h : hb_O yX12_number cX12_number 5 (some .int) d [hb_r 12 0 0, hb_i (1 : Int32), hb_i (3 : Int32)] w (fun rv w1 => hb_R yX12_bookTold cX12_bookTold 1 none (d + 1) 48 [some (hb_r 12 0 0)] (rv.toList ++ [hb_i (1 : Int32), hb_r 12 0 13]) w1 Q)) : hb_R yX12_bookTold cX12_bookTold 1 none (d + 1) 37 [some (hb_r 12 0 0)] [] w Q := by
  refine hb_aload_n (pc := 37) (i := 0) dX12_bookTold_37 rfl rfl ?_
  refine hb_getR (pc := 38) (g1 := 0) dX12_bookTold_38 fw_X12_51 cw_12 rfl (by decide) rfl (by decide) rfl ?_
  refine hb_iconst (pc := 41) (v := 1) dX12_bookTold_41 (by decide) ?_
  refine hb_aload_n (pc := 42) (i := 0) dX12_bookTold_42 rfl rfl ?_
  refine hb_iconst (pc := 43) (v := 1) dX12_bookTold_43 (by decide) ?_
  refine hb_iconst (pc := 44) (v := 3) dX12_bookTold_44 (by decide) ?_
  exact hb_callV (pc := 45) (As := [hb_i (1 : Int32), hb_i (3 : Int32)]) (st := [hb_i (1 : Int32), hb_r 12 0 13]) dX12_bookTold_45 ml_X12_249 mf_X12_number mi_X12_number (ci := 12) rfl rfl (by decide) rfl rfl (Nat.le_of_ble_eq_true rfl) (Nat.le_of_ble_eq_true rfl) h (fun _ _ q => q)
set_option maxRecDepth 20000 in
theorem bk_X12_bookTold_48 {d : Nat} {w : hb_W} {Q : Option hb_V → hb_W → Prop} {xs1 : Int32} {xs2 : Int32} (h : vp_in xs1 6 ∧ (hb_O yX12_asksSign cX12_asksSign 2 none d [hb_r 12 0 0, hb_i (59 : Int32)] (hb_sI w 12 13 0 (upd (hb_aI w 12 13 0) xs1.toNatClampNeg xs2)) (fun rv w1 => hb_R yX12_bookTold cX12_bookTold 1 none (d + 1) 55 [some (hb_r 12 0 0)] (rv.toList ++ []) w1 Q))) : hb_R yX12_bookTold cX12_bookTold 1 none (d + 1) 48 [some (hb_r 12 0 0)] [hb_i xs2, hb_i xs1, hb_r 12 0 13] w Q := by
  obtain ⟨ho1, hr1⟩ := h
  refine hb_iastx (pc := 48) (f := upd (hb_aI w 12 13 0) xs1.toNatClampNeg xs2) dX12_bookTold_48 rfl (by decide) ho1 rfl ?_
  refine hb_aload_n (pc := 49) (i := 0) dX12_bookTold_49 rfl rfl ?_
  refine hb_bipush (pc := 50) (v := 59) dX12_bookTold_50 (by decide) ?_
  exact hb_callV (pc := 52) (As := [hb_i (59 : Int32)]) (st := []) dX12_bookTold_52 ml_X12_253 mf_X12_asksSign mi_X12_asksSign (ci := 12) rfl rfl (by decide) rfl rfl (Nat.le_of_ble_eq_true rfl) (Nat.le_of_ble_eq_true rfl) hr1 (fun _ _ q => q)
set_option maxRecDepth 20000 in
theorem bk_X12_bookTold_55 {d : Nat} {w : hb_W} {Q : Option hb_V → hb_W → Prop} (h : Q none w) : hb_R yX12_bookTold cX12_bookTold 1 none (d + 1) 55 [some (hb_r 12 0 0)] [] w Q := by
  exact hb_vret (pc := 55) dX12_bookTold_55 rfl h
theorem dX12_codesTold_0 : decode cX12_codesTold 0 = .ok (.aload_n 0, 1) := by decide +kernel
theorem dX12_codesTold_1 : decode cX12_codesTold 1 = .ok (.iload_n 1, 1) := by decide +kernel
theorem dX12_codesTold_2 : decode cX12_codesTold 2 = .ok (.bipush 20, 2) := by decide +kernel
theorem dX12_codesTold_4 : decode cX12_codesTold 4 = .ok (.if_icmp .ne 7, 3) := by decide +kernel
theorem dX12_codesTold_7 : decode cX12_codesTold 7 = .ok (.iconst 1, 1) := by decide +kernel
theorem dX12_codesTold_8 : decode cX12_codesTold 8 = .ok (.goto 4, 3) := by decide +kernel
theorem dX12_codesTold_11 : decode cX12_codesTold 11 = .ok (.iconst 0, 1) := by decide +kernel
theorem dX12_codesTold_12 : decode cX12_codesTold 12 = .ok (.putfield 242, 3) := by decide +kernel
theorem dX12_codesTold_15 : decode cX12_codesTold 15 = .ok (.aload_n 0, 1) := by decide +kernel
theorem dX12_codesTold_16 : decode cX12_codesTold 16 = .ok (.iconst 0, 1) := by decide +kernel
theorem dX12_codesTold_17 : decode cX12_codesTold 17 = .ok (.putfield 257, 3) := by decide +kernel
theorem dX12_codesTold_20 : decode cX12_codesTold 20 = .ok (.aload_n 0, 1) := by decide +kernel
theorem dX12_codesTold_21 : decode cX12_codesTold 21 = .ok (.iconst 0, 1) := by decide +kernel
theorem dX12_codesTold_22 : decode cX12_codesTold 22 = .ok (.putfield 260, 3) := by decide +kernel
theorem dX12_codesTold_25 : decode cX12_codesTold 25 = .ok (.aload_n 0, 1) := by decide +kernel
theorem dX12_codesTold_26 : decode cX12_codesTold 26 = .ok (.iconst 0, 1) := by decide +kernel
theorem dX12_codesTold_27 : decode cX12_codesTold 27 = .ok (.putfield 263, 3) := by decide +kernel
theorem dX12_codesTold_30 : decode cX12_codesTold 30 = .ok (.aload_n 0, 1) := by decide +kernel
theorem dX12_codesTold_31 : decode cX12_codesTold 31 = .ok (.iconst 0, 1) := by decide +kernel
theorem dX12_codesTold_32 : decode cX12_codesTold 32 = .ok (.putfield 266, 3) := by decide +kernel
theorem dX12_codesTold_35 : decode cX12_codesTold 35 = .ok (.aload_n 0, 1) := by decide +kernel
theorem dX12_codesTold_36 : decode cX12_codesTold 36 = .ok (.invokevirtual 269, 3) := by decide +kernel
theorem dX12_codesTold_39 : decode cX12_codesTold 39 = .ok (.aload_n 0, 1) := by decide +kernel
theorem dX12_codesTold_40 : decode cX12_codesTold 40 = .ok (.getfield 195, 3) := by decide +kernel
theorem dX12_codesTold_43 : decode cX12_codesTold 43 = .ok (.ifCond .eq 4, 3) := by decide +kernel
theorem dX12_codesTold_46 : decode cX12_codesTold 46 = .ok (.return_, 1) := by decide +kernel
theorem dX12_codesTold_47 : decode cX12_codesTold 47 = .ok (.aload_n 0, 1) := by decide +kernel
theorem dX12_codesTold_48 : decode cX12_codesTold 48 = .ok (.getfield 57, 3) := by decide +kernel
theorem dX12_codesTold_51 : decode cX12_codesTold 51 = .ok (.iload_n 1, 1) := by decide +kernel
theorem dX12_codesTold_52 : decode cX12_codesTold 52 = .ok (.aload_n 0, 1) := by decide +kernel
theorem dX12_codesTold_53 : decode cX12_codesTold 53 = .ok (.getfield 272, 3) := by decide +kernel
theorem dX12_codesTold_56 : decode cX12_codesTold 56 = .ok (.iastore, 1) := by decide +kernel
theorem dX12_codesTold_57 : decode cX12_codesTold 57 = .ok (.iconst 0, 1) := by decide +kernel
theorem dX12_codesTold_58 : decode cX12_codesTold 58 = .ok (.istore_n 2, 1) := by decide +kernel
theorem dX12_codesTold_59 : decode cX12_codesTold 59 = .ok (.iload_n 2, 1) := by decide +kernel
theorem dX12_codesTold_60 : decode cX12_codesTold 60 = .ok (.aload_n 0, 1) := by decide +kernel
theorem dX12_codesTold_61 : decode cX12_codesTold 61 = .ok (.getfield 257, 3) := by decide +kernel
theorem dX12_codesTold_64 : decode cX12_codesTold 64 = .ok (.if_icmp .ge 34, 3) := by decide +kernel
theorem dX12_codesTold_67 : decode cX12_codesTold 67 = .ok (.aload_n 0, 1) := by decide +kernel
theorem dX12_codesTold_68 : decode cX12_codesTold 68 = .ok (.getfield 63, 3) := by decide +kernel
theorem dX12_codesTold_71 : decode cX12_codesTold 71 = .ok (.aload_n 0, 1) := by decide +kernel
theorem dX12_codesTold_72 : decode cX12_codesTold 72 = .ok (.getfield 272, 3) := by decide +kernel
theorem dX12_codesTold_75 : decode cX12_codesTold 75 = .ok (.aload_n 0, 1) := by decide +kernel
theorem dX12_codesTold_76 : decode cX12_codesTold 76 = .ok (.getfield 179, 3) := by decide +kernel
theorem dX12_codesTold_79 : decode cX12_codesTold 79 = .ok (.iload_n 2, 1) := by decide +kernel
theorem dX12_codesTold_80 : decode cX12_codesTold 80 = .ok (.iaload, 1) := by decide +kernel
theorem dX12_codesTold_81 : decode cX12_codesTold 81 = .ok (.iastore, 1) := by decide +kernel
theorem dX12_codesTold_82 : decode cX12_codesTold 82 = .ok (.aload_n 0, 1) := by decide +kernel
theorem dX12_codesTold_83 : decode cX12_codesTold 83 = .ok (.dup, 1) := by decide +kernel
theorem dX12_codesTold_84 : decode cX12_codesTold 84 = .ok (.getfield 272, 3) := by decide +kernel
theorem dX12_codesTold_87 : decode cX12_codesTold 87 = .ok (.iconst 1, 1) := by decide +kernel
theorem dX12_codesTold_88 : decode cX12_codesTold 88 = .ok (.iadd, 1) := by decide +kernel
theorem dX12_codesTold_89 : decode cX12_codesTold 89 = .ok (.putfield 272, 3) := by decide +kernel
theorem dX12_codesTold_92 : decode cX12_codesTold 92 = .ok (.iinc 2 1, 3) := by decide +kernel
theorem dX12_codesTold_95 : decode cX12_codesTold 95 = .ok (.goto (-36), 3) := by decide +kernel
theorem dX12_codesTold_98 : decode cX12_codesTold 98 = .ok (.aload_n 0, 1) := by decide +kernel
theorem dX12_codesTold_99 : decode cX12_codesTold 99 = .ok (.getfield 60, 3) := by decide +kernel
theorem dX12_codesTold_102 : decode cX12_codesTold 102 = .ok (.iload_n 1, 1) := by decide +kernel
theorem dX12_codesTold_103 : decode cX12_codesTold 103 = .ok (.aload_n 0, 1) := by decide +kernel
theorem dX12_codesTold_104 : decode cX12_codesTold 104 = .ok (.getfield 272, 3) := by decide +kernel
theorem dX12_codesTold_107 : decode cX12_codesTold 107 = .ok (.iastore, 1) := by decide +kernel
theorem dX12_codesTold_108 : decode cX12_codesTold 108 = .ok (.return_, 1) := by decide +kernel
set_option maxRecDepth 20000 in
theorem bk_X12_codesTold_0 {d : Nat} {w : hb_W} {Q : Option hb_V → hb_W → Prop} {x1 : Int32} (h : ((¬ x1 = (20 : Int32)) → hb_O yX12_qSums cX12_qSums 3 none d [hb_r 12 0 0] (hb_pI (hb_pI (hb_pI (hb_pI (hb_pI w 12 31 0 (0 : Int32)) 12 80 0 (0 : Int32)) 12 82 0 (0 : Int32)) 12 83 0 (0 : Int32)) 12 84 0 (0 : Int32)) (fun rv w1 => hb_R yX12_codesTold cX12_codesTold 3 none (d + 1) 39 [some (hb_r 12 0 0), some (hb_i x1), none] (rv.toList ++ []) w1 Q)) ∧ ((x1 = (20 : Int32)) → hb_O yX12_qSums cX12_qSums 3 none d [hb_r 12 0 0] (hb_pI (hb_pI (hb_pI (hb_pI (hb_pI w 12 31 0 (1 : Int32)) 12 80 0 (0 : Int32)) 12 82 0 (0 : Int32)) 12 83 0 (0 : Int32)) 12 84 0 (0 : Int32)) (fun rv w1 => hb_R yX12_codesTold cX12_codesTold 3 none (d + 1) 39 [some (hb_r 12 0 0), some (hb_i x1), none] (rv.toList ++ []) w1 Q))) : hb_R yX12_codesTold cX12_codesTold 3 none (d + 1) 0 [some (hb_r 12 0 0), some (hb_i x1), none] [] w Q := by
  refine hb_aload_n (pc := 0) (i := 0) dX12_codesTold_0 rfl rfl ?_
  refine hb_iload_n (pc := 1) (i := 1) dX12_codesTold_1 rfl rfl ?_
  refine hb_bipush (pc := 2) (v := 20) dX12_codesTold_2 (by decide) ?_
  refine hb_icmp_ne (pc := 4) (tgt := 11) dX12_codesTold_4 (by decide) (fun c1 => ?_) (fun c1 => ?_)
  · have ht1 := h.1 c1
    refine hb_iconst (pc := 11) (v := 0) dX12_codesTold_11 (by decide) ?_
    refine hb_putI (pc := 12) dX12_codesTold_12 fw_X12_242 cw_12 pw_12_31 rfl (by decide) rfl rfl rfl ?_
    refine hb_aload_n (pc := 15) (i := 0) dX12_codesTold_15 rfl rfl ?_
    refine hb_iconst (pc := 16) (v := 0) dX12_codesTold_16 (by decide) ?_
    refine hb_putI (pc := 17) dX12_codesTold_17 fw_X12_257 cw_12 pw_12_80 rfl (by decide) rfl rfl rfl ?_
    refine hb_aload_n (pc := 20) (i := 0) dX12_codesTold_20 rfl rfl ?_
    refine hb_iconst (pc := 21) (v := 0) dX12_codesTold_21 (by decide) ?_
    refine hb_putI (pc := 22) dX12_codesTold_22 fw_X12_260 cw_12 pw_12_82 rfl (by decide) rfl rfl rfl ?_
    refine hb_aload_n (pc := 25) (i := 0) dX12_codesTold_25 rfl rfl ?_
    refine hb_iconst (pc := 26) (v := 0) dX12_codesTold_26 (by decide) ?_
    refine hb_putI (pc := 27) dX12_codesTold_27 fw_X12_263 cw_12 pw_12_83 rfl (by decide) rfl rfl rfl ?_
    refine hb_aload_n (pc := 30) (i := 0) dX12_codesTold_30 rfl rfl ?_
    refine hb_iconst (pc := 31) (v := 0) dX12_codesTold_31 (by decide) ?_
    refine hb_putI (pc := 32) dX12_codesTold_32 fw_X12_266 cw_12 pw_12_84 rfl (by decide) rfl rfl rfl ?_
    refine hb_aload_n (pc := 35) (i := 0) dX12_codesTold_35 rfl rfl ?_
    exact hb_callV (pc := 36) (As := []) (st := []) dX12_codesTold_36 ml_X12_269 mf_X12_qSums mi_X12_qSums (ci := 12) rfl rfl (by decide) rfl rfl (Nat.le_of_ble_eq_true rfl) (Nat.le_of_ble_eq_true rfl) ht1 (fun _ _ q => q)
  · have ht1 := h.2 c1
    refine hb_iconst (pc := 7) (v := 1) dX12_codesTold_7 (by decide) ?_
    refine hb_goto (pc := 8) (tgt := 12) dX12_codesTold_8 (by decide) ?_
    refine hb_putI (pc := 12) dX12_codesTold_12 fw_X12_242 cw_12 pw_12_31 rfl (by decide) rfl rfl rfl ?_
    refine hb_aload_n (pc := 15) (i := 0) dX12_codesTold_15 rfl rfl ?_
    refine hb_iconst (pc := 16) (v := 0) dX12_codesTold_16 (by decide) ?_
    refine hb_putI (pc := 17) dX12_codesTold_17 fw_X12_257 cw_12 pw_12_80 rfl (by decide) rfl rfl rfl ?_
    refine hb_aload_n (pc := 20) (i := 0) dX12_codesTold_20 rfl rfl ?_
    refine hb_iconst (pc := 21) (v := 0) dX12_codesTold_21 (by decide) ?_
    refine hb_putI (pc := 22) dX12_codesTold_22 fw_X12_260 cw_12 pw_12_82 rfl (by decide) rfl rfl rfl ?_
    refine hb_aload_n (pc := 25) (i := 0) dX12_codesTold_25 rfl rfl ?_
    refine hb_iconst (pc := 26) (v := 0) dX12_codesTold_26 (by decide) ?_
    refine hb_putI (pc := 27) dX12_codesTold_27 fw_X12_263 cw_12 pw_12_83 rfl (by decide) rfl rfl rfl ?_
    refine hb_aload_n (pc := 30) (i := 0) dX12_codesTold_30 rfl rfl ?_
    refine hb_iconst (pc := 31) (v := 0) dX12_codesTold_31 (by decide) ?_
    refine hb_putI (pc := 32) dX12_codesTold_32 fw_X12_266 cw_12 pw_12_84 rfl (by decide) rfl rfl rfl ?_
    refine hb_aload_n (pc := 35) (i := 0) dX12_codesTold_35 rfl rfl ?_
    exact hb_callV (pc := 36) (As := []) (st := []) dX12_codesTold_36 ml_X12_269 mf_X12_qSums mi_X12_qSums (ci := 12) rfl rfl (by decide) rfl rfl (Nat.le_of_ble_eq_true rfl) (Nat.le_of_ble_eq_true rfl) ht1 (fun _ _ q => q)
set_option maxRecDepth 20000 in
theorem bk_X12_codesTold_39 {d : Nat} {w : hb_W} {Q : Option hb_V → hb_W → Prop} {x1 : Int32} (h : (((hb_fI w 12 5 0) = 0) → vp_in x1 42 ∧ (hb_R yX12_codesTold cX12_codesTold 3 none (d + 1) 59 [some (hb_r 12 0 0), some (hb_i x1), some (hb_i (0 : Int32))] [] (hb_sI w 12 15 0 (upd (hb_aI w 12 15 0) x1.toNatClampNeg (hb_fI w 12 28 0))) Q)) ∧ ((¬ (hb_fI w 12 5 0) = 0) → Q none w)) : hb_R yX12_codesTold cX12_codesTold 3 none (d + 1) 39 [some (hb_r 12 0 0), some (hb_i x1), none] [] w Q := by
  refine hb_aload_n (pc := 39) (i := 0) dX12_codesTold_39 rfl rfl ?_
  refine hb_getIx (pc := 40) (x := hb_fI w 12 5 0) dX12_codesTold_40 fw_X12_195 cw_12 rfl (by decide) rfl rfl ?_
  refine hb_if_eq (pc := 43) (tgt := 47) dX12_codesTold_43 (by decide) (fun c1 => ?_) (fun c1 => ?_)
  · have ht1 := h.1 c1
    refine hb_aload_n (pc := 47) (i := 0) dX12_codesTold_47 rfl rfl ?_
    refine hb_getR (pc := 48) (g1 := 0) dX12_codesTold_48 fw_X12_57 cw_12 rfl (by decide) rfl (by decide) rfl ?_
    refine hb_iload_n (pc := 51) (i := 1) dX12_codesTold_51 rfl rfl ?_
    refine hb_aload_n (pc := 52) (i := 0) dX12_codesTold_52 rfl rfl ?_
    refine hb_getIx (pc := 53) (x := hb_fI w 12 28 0) dX12_codesTold_53 fw_X12_272 cw_12 rfl (by decide) rfl rfl ?_
    obtain ⟨ho2, hr2⟩ := ht1
    refine hb_iastx (pc := 56) (f := upd (hb_aI w 12 15 0) x1.toNatClampNeg (hb_fI w 12 28 0)) dX12_codesTold_56 rfl (by decide) ho2 rfl ?_
    refine hb_iconst (pc := 57) (v := 0) dX12_codesTold_57 (by decide) ?_
    refine hb_istore_n (pc := 58) (i := 2) (ls1 := [some (hb_r 12 0 0), some (hb_i x1), some (hb_i (0 : Int32))]) dX12_codesTold_58 rfl (by decide) rfl ?_
    exact hr2
  · have ht1 := h.2 c1
    exact hb_vret (pc := 46) dX12_codesTold_46 rfl ht1
set_option maxRecDepth 20000 in
theorem bk_X12_codesTold_59 {d : Nat} {w : hb_W} {Q : Option hb_V → hb_W → Prop} {x1 : Int32} {x2 : Int32} (h : (((hb_fI w 12 80 0) ≤ x2) → vp_in x1 42 ∧ (Q none (hb_sI w 12 16 0 (upd (hb_aI w 12 16 0) x1.toNatClampNeg (hb_fI w 12 28 0))))) ∧ ((¬ (hb_fI w 12 80 0) ≤ x2) → vp_in x2 1700 ∧ (vp_in (hb_fI w 12 28 0) 3200 ∧ (hb_R yX12_codesTold cX12_codesTold 3 none (d + 1) 59 [some (hb_r 12 0 0), some (hb_i x1), some (hb_i (x2 + (1 : Int32)))] [] (hb_pI (hb_sI w 12 17 0 (upd (hb_aI w 12 17 0) (hb_fI w 12 28 0).toNatClampNeg (hb_aI w 12 54 0 x2.toNatClampNeg))) 12 28 0 ((hb_fI w 12 28 0) + (1 : Int32))) Q)))) : hb_R yX12_codesTold cX12_codesTold 3 none (d + 1) 59 [some (hb_r 12 0 0), some (hb_i x1), some (hb_i x2)] [] w Q := by
  refine hb_iload_n (pc := 59) (i := 2) dX12_codesTold_59 rfl rfl ?_
  refine hb_aload_n (pc := 60) (i := 0) dX12_codesTold_60 rfl rfl ?_
  refine hb_getIx (pc := 61) (x := hb_fI w 12 80 0) dX12_codesTold_61 fw_X12_257 cw_12 rfl (by decide) rfl rfl ?_
  refine hb_icmp_ge (pc := 64) (tgt := 98) dX12_codesTold_64 (by decide) (fun c1 => ?_) (fun c1 => ?_)
  · have ht1 := h.1 c1
    refine hb_aload_n (pc := 98) (i := 0) dX12_codesTold_98 rfl rfl ?_
    refine hb_getR (pc := 99) (g1 := 0) dX12_codesTold_99 fw_X12_60 cw_12 rfl (by decide) rfl (by decide) rfl ?_
    refine hb_iload_n (pc := 102) (i := 1) dX12_codesTold_102 rfl rfl ?_
    refine hb_aload_n (pc := 103) (i := 0) dX12_codesTold_103 rfl rfl ?_
    refine hb_getIx (pc := 104) (x := hb_fI w 12 28 0) dX12_codesTold_104 fw_X12_272 cw_12 rfl (by decide) rfl rfl ?_
    obtain ⟨ho2, hr2⟩ := ht1
    refine hb_iastx (pc := 107) (f := upd (hb_aI w 12 16 0) x1.toNatClampNeg (hb_fI w 12 28 0)) dX12_codesTold_107 rfl (by decide) ho2 rfl ?_
    exact hb_vret (pc := 108) dX12_codesTold_108 rfl hr2
  · have ht1 := h.2 c1
    refine hb_aload_n (pc := 67) (i := 0) dX12_codesTold_67 rfl rfl ?_
    refine hb_getR (pc := 68) (g1 := 0) dX12_codesTold_68 fw_X12_63 cw_12 rfl (by decide) rfl (by decide) rfl ?_
    refine hb_aload_n (pc := 71) (i := 0) dX12_codesTold_71 rfl rfl ?_
    refine hb_getIx (pc := 72) (x := hb_fI w 12 28 0) dX12_codesTold_72 fw_X12_272 cw_12 rfl (by decide) rfl rfl ?_
    refine hb_aload_n (pc := 75) (i := 0) dX12_codesTold_75 rfl rfl ?_
    refine hb_getR (pc := 76) (g1 := 0) dX12_codesTold_76 fw_X12_179 cw_12 rfl (by decide) rfl (by decide) rfl ?_
    refine hb_iload_n (pc := 79) (i := 2) dX12_codesTold_79 rfl rfl ?_
    obtain ⟨ho3, hr3⟩ := ht1
    refine hb_ialdx (pc := 80) (x := hb_aI w 12 54 0 x2.toNatClampNeg) dX12_codesTold_80 rfl (by decide) ho3 rfl ?_
    obtain ⟨ho4, hr4⟩ := hr3
    refine hb_iastx (pc := 81) (f := upd (hb_aI w 12 17 0) (hb_fI w 12 28 0).toNatClampNeg (hb_aI w 12 54 0 x2.toNatClampNeg)) dX12_codesTold_81 rfl (by decide) ho4 rfl ?_
    refine hb_aload_n (pc := 82) (i := 0) dX12_codesTold_82 rfl rfl ?_
    refine hb_dupr (pc := 83) dX12_codesTold_83 ?_
    refine hb_getIx (pc := 84) (x := hb_fI w 12 28 0) dX12_codesTold_84 fw_X12_272 cw_12 rfl (by decide) rfl rfl ?_
    refine hb_iconst (pc := 87) (v := 1) dX12_codesTold_87 (by decide) ?_
    refine hb_iadd (pc := 88) dX12_codesTold_88 ?_
    refine hb_putI (pc := 89) dX12_codesTold_89 fw_X12_272 cw_12 pw_12_28 rfl (by decide) rfl rfl rfl ?_
    refine hb_iinc (pc := 92) (v := x2 + (1 : Int32)) (ls1 := [some (hb_r 12 0 0), some (hb_i x1), some (hb_i (x2 + (1 : Int32)))]) dX12_codesTold_92 rfl rfl (by decide) rfl ?_
    refine hb_goto (pc := 95) (tgt := 59) dX12_codesTold_95 (by decide) ?_
    exact hr4
theorem dX12_hoodsTold_0 : decode cX12_hoodsTold 0 = .ok (.aload_n 0, 1) := by decide +kernel
theorem dX12_hoodsTold_1 : decode cX12_hoodsTold 1 = .ok (.getfield 195, 3) := by decide +kernel
theorem dX12_hoodsTold_4 : decode cX12_hoodsTold 4 = .ok (.ifCond .ne 18, 3) := by decide +kernel
theorem dX12_hoodsTold_7 : decode cX12_hoodsTold 7 = .ok (.aload_n 0, 1) := by decide +kernel
theorem dX12_hoodsTold_8 : decode cX12_hoodsTold 8 = .ok (.getfield 275, 3) := by decide +kernel
theorem dX12_hoodsTold_11 : decode cX12_hoodsTold 11 = .ok (.bipush 20, 2) := by decide +kernel
theorem dX12_hoodsTold_13 : decode cX12_hoodsTold 13 = .ok (.if_icmp .ne 9, 3) := by decide +kernel
theorem dX12_hoodsTold_16 : decode cX12_hoodsTold 16 = .ok (.aload_n 0, 1) := by decide +kernel
theorem dX12_hoodsTold_17 : decode cX12_hoodsTold 17 = .ok (.iconst 5, 1) := by decide +kernel
theorem dX12_hoodsTold_18 : decode cX12_hoodsTold 18 = .ok (.iload_n 1, 1) := by decide +kernel
theorem dX12_hoodsTold_19 : decode cX12_hoodsTold 19 = .ok (.invokevirtual 225, 3) := by decide +kernel
theorem dX12_hoodsTold_22 : decode cX12_hoodsTold 22 = .ok (.aload_n 0, 1) := by decide +kernel
theorem dX12_hoodsTold_23 : decode cX12_hoodsTold 23 = .ok (.iconst 1, 1) := by decide +kernel
theorem dX12_hoodsTold_24 : decode cX12_hoodsTold 24 = .ok (.bipush 99, 2) := by decide +kernel
theorem dX12_hoodsTold_26 : decode cX12_hoodsTold 26 = .ok (.invokevirtual 249, 3) := by decide +kernel
theorem dX12_hoodsTold_29 : decode cX12_hoodsTold 29 = .ok (.istore_n 2, 1) := by decide +kernel
theorem dX12_hoodsTold_30 : decode cX12_hoodsTold 30 = .ok (.aload_n 0, 1) := by decide +kernel
theorem dX12_hoodsTold_31 : decode cX12_hoodsTold 31 = .ok (.aload_n 0, 1) := by decide +kernel
theorem dX12_hoodsTold_32 : decode cX12_hoodsTold 32 = .ok (.getfield 33, 3) := by decide +kernel
theorem dX12_hoodsTold_35 : decode cX12_hoodsTold 35 = .ok (.invokevirtual 245, 3) := by decide +kernel
theorem dX12_hoodsTold_38 : decode cX12_hoodsTold 38 = .ok (.aload_n 0, 1) := by decide +kernel
theorem dX12_hoodsTold_39 : decode cX12_hoodsTold 39 = .ok (.iconst 0, 1) := by decide +kernel
theorem dX12_hoodsTold_40 : decode cX12_hoodsTold 40 = .ok (.bipush 63, 2) := by decide +kernel
theorem dX12_hoodsTold_42 : decode cX12_hoodsTold 42 = .ok (.invokevirtual 249, 3) := by decide +kernel
theorem dX12_hoodsTold_45 : decode cX12_hoodsTold 45 = .ok (.istore_n 3, 1) := by decide +kernel
theorem dX12_hoodsTold_46 : decode cX12_hoodsTold 46 = .ok (.aload_n 0, 1) := by decide +kernel
theorem dX12_hoodsTold_47 : decode cX12_hoodsTold 47 = .ok (.aload_n 0, 1) := by decide +kernel
theorem dX12_hoodsTold_48 : decode cX12_hoodsTold 48 = .ok (.getfield 36, 3) := by decide +kernel
theorem dX12_hoodsTold_51 : decode cX12_hoodsTold 51 = .ok (.invokevirtual 245, 3) := by decide +kernel
theorem dX12_hoodsTold_54 : decode cX12_hoodsTold 54 = .ok (.aload_n 0, 1) := by decide +kernel
theorem dX12_hoodsTold_55 : decode cX12_hoodsTold 55 = .ok (.iconst 0, 1) := by decide +kernel
theorem dX12_hoodsTold_56 : decode cX12_hoodsTold 56 = .ok (.bipush 63, 2) := by decide +kernel
theorem dX12_hoodsTold_58 : decode cX12_hoodsTold 58 = .ok (.invokevirtual 249, 3) := by decide +kernel
theorem dX12_hoodsTold_61 : decode cX12_hoodsTold 61 = .ok (.istore 4, 2) := by decide +kernel
theorem dX12_hoodsTold_63 : decode cX12_hoodsTold 63 = .ok (.aload_n 0, 1) := by decide +kernel
theorem dX12_hoodsTold_64 : decode cX12_hoodsTold 64 = .ok (.aload_n 0, 1) := by decide +kernel
theorem dX12_hoodsTold_65 : decode cX12_hoodsTold 65 = .ok (.getfield 39, 3) := by decide +kernel
theorem dX12_hoodsTold_68 : decode cX12_hoodsTold 68 = .ok (.invokevirtual 245, 3) := by decide +kernel
theorem dX12_hoodsTold_71 : decode cX12_hoodsTold 71 = .ok (.aload_n 0, 1) := by decide +kernel
theorem dX12_hoodsTold_72 : decode cX12_hoodsTold 72 = .ok (.getfield 195, 3) := by decide +kernel
theorem dX12_hoodsTold_75 : decode cX12_hoodsTold 75 = .ok (.ifCond .eq 4, 3) := by decide +kernel
theorem dX12_hoodsTold_78 : decode cX12_hoodsTold 78 = .ok (.return_, 1) := by decide +kernel
theorem dX12_hoodsTold_79 : decode cX12_hoodsTold 79 = .ok (.aload_n 0, 1) := by decide +kernel
theorem dX12_hoodsTold_80 : decode cX12_hoodsTold 80 = .ok (.aload_n 0, 1) := by decide +kernel
theorem dX12_hoodsTold_81 : decode cX12_hoodsTold 81 = .ok (.getfield 275, 3) := by decide +kernel
theorem dX12_hoodsTold_84 : decode cX12_hoodsTold 84 = .ok (.invokevirtual 278, 3) := by decide +kernel
theorem dX12_hoodsTold_87 : decode cX12_hoodsTold 87 = .ok (.aload_n 0, 1) := by decide +kernel
theorem dX12_hoodsTold_88 : decode cX12_hoodsTold 88 = .ok (.aload_n 0, 1) := by decide +kernel
theorem dX12_hoodsTold_89 : decode cX12_hoodsTold 89 = .ok (.getfield 42, 3) := by decide +kernel
theorem dX12_hoodsTold_92 : decode cX12_hoodsTold 92 = .ok (.invokevirtual 245, 3) := by decide +kernel
theorem dX12_hoodsTold_95 : decode cX12_hoodsTold 95 = .ok (.aload_n 0, 1) := by decide +kernel
theorem dX12_hoodsTold_96 : decode cX12_hoodsTold 96 = .ok (.iconst 0, 1) := by decide +kernel
theorem dX12_hoodsTold_97 : decode cX12_hoodsTold 97 = .ok (.iconst 1, 1) := by decide +kernel
theorem dX12_hoodsTold_98 : decode cX12_hoodsTold 98 = .ok (.invokevirtual 249, 3) := by decide +kernel
theorem dX12_hoodsTold_101 : decode cX12_hoodsTold 101 = .ok (.istore 5, 2) := by decide +kernel
theorem dX12_hoodsTold_103 : decode cX12_hoodsTold 103 = .ok (.aload_n 0, 1) := by decide +kernel
theorem dX12_hoodsTold_104 : decode cX12_hoodsTold 104 = .ok (.getfield 195, 3) := by decide +kernel
theorem dX12_hoodsTold_107 : decode cX12_hoodsTold 107 = .ok (.ifCond .eq 4, 3) := by decide +kernel
theorem dX12_hoodsTold_110 : decode cX12_hoodsTold 110 = .ok (.return_, 1) := by decide +kernel
theorem dX12_hoodsTold_111 : decode cX12_hoodsTold 111 = .ok (.iconst 4, 1) := by decide +kernel
theorem dX12_hoodsTold_112 : decode cX12_hoodsTold 112 = .ok (.aload_n 0, 1) := by decide +kernel
theorem dX12_hoodsTold_113 : decode cX12_hoodsTold 113 = .ok (.getfield 275, 3) := by decide +kernel
theorem dX12_hoodsTold_116 : decode cX12_hoodsTold 116 = .ok (.imul, 1) := by decide +kernel
theorem dX12_hoodsTold_117 : decode cX12_hoodsTold 117 = .ok (.istore 6, 2) := by decide +kernel
theorem dX12_hoodsTold_119 : decode cX12_hoodsTold 119 = .ok (.aload_n 0, 1) := by decide +kernel
theorem dX12_hoodsTold_120 : decode cX12_hoodsTold 120 = .ok (.getfield 54, 3) := by decide +kernel
theorem dX12_hoodsTold_123 : decode cX12_hoodsTold 123 = .ok (.iload 6, 2) := by decide +kernel
theorem dX12_hoodsTold_125 : decode cX12_hoodsTold 125 = .ok (.iload_n 2, 1) := by decide +kernel
theorem dX12_hoodsTold_126 : decode cX12_hoodsTold 126 = .ok (.iastore, 1) := by decide +kernel
theorem dX12_hoodsTold_127 : decode cX12_hoodsTold 127 = .ok (.aload_n 0, 1) := by decide +kernel
theorem dX12_hoodsTold_128 : decode cX12_hoodsTold 128 = .ok (.getfield 54, 3) := by decide +kernel
theorem dX12_hoodsTold_131 : decode cX12_hoodsTold 131 = .ok (.iload 6, 2) := by decide +kernel
theorem dX12_hoodsTold_133 : decode cX12_hoodsTold 133 = .ok (.iconst 1, 1) := by decide +kernel
theorem dX12_hoodsTold_134 : decode cX12_hoodsTold 134 = .ok (.iadd, 1) := by decide +kernel
theorem dX12_hoodsTold_135 : decode cX12_hoodsTold 135 = .ok (.iload_n 3, 1) := by decide +kernel
theorem dX12_hoodsTold_136 : decode cX12_hoodsTold 136 = .ok (.iastore, 1) := by decide +kernel
theorem dX12_hoodsTold_137 : decode cX12_hoodsTold 137 = .ok (.aload_n 0, 1) := by decide +kernel
theorem dX12_hoodsTold_138 : decode cX12_hoodsTold 138 = .ok (.getfield 54, 3) := by decide +kernel
theorem dX12_hoodsTold_141 : decode cX12_hoodsTold 141 = .ok (.iload 6, 2) := by decide +kernel
theorem dX12_hoodsTold_143 : decode cX12_hoodsTold 143 = .ok (.iconst 2, 1) := by decide +kernel
theorem dX12_hoodsTold_144 : decode cX12_hoodsTold 144 = .ok (.iadd, 1) := by decide +kernel
theorem dX12_hoodsTold_145 : decode cX12_hoodsTold 145 = .ok (.iload 4, 2) := by decide +kernel
theorem dX12_hoodsTold_147 : decode cX12_hoodsTold 147 = .ok (.iastore, 1) := by decide +kernel
theorem dX12_hoodsTold_148 : decode cX12_hoodsTold 148 = .ok (.aload_n 0, 1) := by decide +kernel
theorem dX12_hoodsTold_149 : decode cX12_hoodsTold 149 = .ok (.getfield 54, 3) := by decide +kernel
theorem dX12_hoodsTold_152 : decode cX12_hoodsTold 152 = .ok (.iload 6, 2) := by decide +kernel
theorem dX12_hoodsTold_154 : decode cX12_hoodsTold 154 = .ok (.iconst 3, 1) := by decide +kernel
theorem dX12_hoodsTold_155 : decode cX12_hoodsTold 155 = .ok (.iadd, 1) := by decide +kernel
theorem dX12_hoodsTold_156 : decode cX12_hoodsTold 156 = .ok (.iload 5, 2) := by decide +kernel
theorem dX12_hoodsTold_158 : decode cX12_hoodsTold 158 = .ok (.iastore, 1) := by decide +kernel
theorem dX12_hoodsTold_159 : decode cX12_hoodsTold 159 = .ok (.aload_n 0, 1) := by decide +kernel
theorem dX12_hoodsTold_160 : decode cX12_hoodsTold 160 = .ok (.dup, 1) := by decide +kernel
theorem dX12_hoodsTold_161 : decode cX12_hoodsTold 161 = .ok (.getfield 275, 3) := by decide +kernel
theorem dX12_hoodsTold_164 : decode cX12_hoodsTold 164 = .ok (.iconst 1, 1) := by decide +kernel
theorem dX12_hoodsTold_165 : decode cX12_hoodsTold 165 = .ok (.iadd, 1) := by decide +kernel
theorem dX12_hoodsTold_166 : decode cX12_hoodsTold 166 = .ok (.putfield 275, 3) := by decide +kernel
theorem dX12_hoodsTold_169 : decode cX12_hoodsTold 169 = .ok (.return_, 1) := by decide +kernel
set_option maxRecDepth 20000 in
theorem bk_X12_hoodsTold_0 {d : Nat} {w : hb_W} {Q : Option hb_V → hb_W → Prop} {x1 : Int32} (h : ((¬ (hb_fI w 12 5 0) = 0) → hb_R yX12_hoodsTold cX12_hoodsTold 7 none (d + 1) 22 [some (hb_r 12 0 0), some (hb_i x1), none, none, none, none, none] [] w Q) ∧ (((hb_fI w 12 5 0) = 0) → ((¬ (hb_fI w 12 22 0) = (20 : Int32)) → hb_R yX12_hoodsTold cX12_hoodsTold 7 none (d + 1) 22 [some (hb_r 12 0 0), some (hb_i x1), none, none, none, none, none] [] w Q) ∧ (((hb_fI w 12 22 0) = (20 : Int32)) → hb_O yX12_fail cX12_fail 3 none d [hb_r 12 0 0, hb_i (5 : Int32), hb_i x1] w (fun rv w1 => hb_R yX12_hoodsTold cX12_hoodsTold 7 none (d + 1) 22 [some (hb_r 12 0 0), some (hb_i x1), none, none, none, none, none] (rv.toList ++ []) w1 Q)))) : hb_R yX12_hoodsTold cX12_hoodsTold 7 none (d + 1) 0 [some (hb_r 12 0 0), some (hb_i x1), none, none, none, none, none] [] w Q := by
  refine hb_aload_n (pc := 0) (i := 0) dX12_hoodsTold_0 rfl rfl ?_
  refine hb_getIx (pc := 1) (x := hb_fI w 12 5 0) dX12_hoodsTold_1 fw_X12_195 cw_12 rfl (by decide) rfl rfl ?_
  refine hb_if_ne (pc := 4) (tgt := 22) dX12_hoodsTold_4 (by decide) (fun c1 => ?_) (fun c1 => ?_)
  · have ht1 := h.1 c1
    exact ht1
  · have ht1 := h.2 c1
    refine hb_aload_n (pc := 7) (i := 0) dX12_hoodsTold_7 rfl rfl ?_
    refine hb_getIx (pc := 8) (x := hb_fI w 12 22 0) dX12_hoodsTold_8 fw_X12_275 cw_12 rfl (by decide) rfl rfl ?_
    refine hb_bipush (pc := 11) (v := 20) dX12_hoodsTold_11 (by decide) ?_
    refine hb_icmp_ne (pc := 13) (tgt := 22) dX12_hoodsTold_13 (by decide) (fun c2 => ?_) (fun c2 => ?_)
    · have ht2 := ht1.1 c2
      exact ht2
    · have ht2 := ht1.2 c2
      refine hb_aload_n (pc := 16) (i := 0) dX12_hoodsTold_16 rfl rfl ?_
      refine hb_iconst (pc := 17) (v := 5) dX12_hoodsTold_17 (by decide) ?_
      refine hb_iload_n (pc := 18) (i := 1) dX12_hoodsTold_18 rfl rfl ?_
      exact hb_callV (pc := 19) (As := [hb_i (5 : Int32), hb_i x1]) (st := []) dX12_hoodsTold_19 ml_X12_225 mf_X12_fail mi_X12_fail (ci := 12) rfl rfl (by decide) rfl rfl (Nat.le_of_ble_eq_true rfl) (Nat.le_of_ble_eq_true rfl) ht2 (fun _ _ q => q)
set_option maxRecDepth 20000 in
theorem bk_X12_hoodsTold_22 {d : Nat} {w : hb_W} {Q : Option hb_V → hb_W → Prop} {x1 : Int32} (h : hb_O yX12_number cX12_number 5 (some .int) d [hb_r 12 0 0, hb_i (1 : Int32), hb_i (99 : Int32)] w (fun rv w1 => hb_R yX12_hoodsTold cX12_hoodsTold 7 none (d + 1) 29 [some (hb_r 12 0 0), some (hb_i x1), none, none, none, none, none] (rv.toList ++ []) w1 Q)) : hb_R yX12_hoodsTold cX12_hoodsTold 7 none (d + 1) 22 [some (hb_r 12 0 0), some (hb_i x1), none, none, none, none, none] [] w Q := by
  refine hb_aload_n (pc := 22) (i := 0) dX12_hoodsTold_22 rfl rfl ?_
  refine hb_iconst (pc := 23) (v := 1) dX12_hoodsTold_23 (by decide) ?_
  refine hb_bipush (pc := 24) (v := 99) dX12_hoodsTold_24 (by decide) ?_
  exact hb_callV (pc := 26) (As := [hb_i (1 : Int32), hb_i (99 : Int32)]) (st := []) dX12_hoodsTold_26 ml_X12_249 mf_X12_number mi_X12_number (ci := 12) rfl rfl (by decide) rfl rfl (Nat.le_of_ble_eq_true rfl) (Nat.le_of_ble_eq_true rfl) h (fun _ _ q => q)
set_option maxRecDepth 20000 in
theorem bk_X12_hoodsTold_29 {d : Nat} {w : hb_W} {Q : Option hb_V → hb_W → Prop} {x1 : Int32} {xs0 : Int32} (h : hb_O yX12_asks cX12_asks 2 none d [hb_r 12 0 0, hb_r 12 0 7] w (fun rv w1 => hb_R yX12_hoodsTold cX12_hoodsTold 7 none (d + 1) 38 [some (hb_r 12 0 0), some (hb_i x1), some (hb_i xs0), none, none, none, none] (rv.toList ++ []) w1 Q)) : hb_R yX12_hoodsTold cX12_hoodsTold 7 none (d + 1) 29 [some (hb_r 12 0 0), some (hb_i x1), none, none, none, none, none] [hb_i xs0] w Q := by
  refine hb_istore_n (pc := 29) (i := 2) (ls1 := [some (hb_r 12 0 0), some (hb_i x1), some (hb_i xs0), none, none, none, none]) dX12_hoodsTold_29 rfl (by decide) rfl ?_
  refine hb_aload_n (pc := 30) (i := 0) dX12_hoodsTold_30 rfl rfl ?_
  refine hb_aload_n (pc := 31) (i := 0) dX12_hoodsTold_31 rfl rfl ?_
  refine hb_getR (pc := 32) (g1 := 0) dX12_hoodsTold_32 fw_X12_33 cw_12 rfl (by decide) rfl (by decide) rfl ?_
  exact hb_callV (pc := 35) (As := [hb_r 12 0 7]) (st := []) dX12_hoodsTold_35 ml_X12_245 mf_X12_asks mi_X12_asks (ci := 12) rfl rfl (by decide) rfl rfl (Nat.le_of_ble_eq_true rfl) (Nat.le_of_ble_eq_true rfl) h (fun _ _ q => q)
set_option maxRecDepth 20000 in
theorem bk_X12_hoodsTold_38 {d : Nat} {w : hb_W} {Q : Option hb_V → hb_W → Prop} {x1 : Int32} {x2 : Int32} (h : hb_O yX12_number cX12_number 5 (some .int) d [hb_r 12 0 0, hb_i (0 : Int32), hb_i (63 : Int32)] w (fun rv w1 => hb_R yX12_hoodsTold cX12_hoodsTold 7 none (d + 1) 45 [some (hb_r 12 0 0), some (hb_i x1), some (hb_i x2), none, none, none, none] (rv.toList ++ []) w1 Q)) : hb_R yX12_hoodsTold cX12_hoodsTold 7 none (d + 1) 38 [some (hb_r 12 0 0), some (hb_i x1), some (hb_i x2), none, none, none, none] [] w Q := by
  refine hb_aload_n (pc := 38) (i := 0) dX12_hoodsTold_38 rfl rfl ?_
  refine hb_iconst (pc := 39) (v := 0) dX12_hoodsTold_39 (by decide) ?_
  refine hb_bipush (pc := 40) (v := 63) dX12_hoodsTold_40 (by decide) ?_
  exact hb_callV (pc := 42) (As := [hb_i (0 : Int32), hb_i (63 : Int32)]) (st := []) dX12_hoodsTold_42 ml_X12_249 mf_X12_number mi_X12_number (ci := 12) rfl rfl (by decide) rfl rfl (Nat.le_of_ble_eq_true rfl) (Nat.le_of_ble_eq_true rfl) h (fun _ _ q => q)
set_option maxRecDepth 20000 in
theorem bk_X12_hoodsTold_45 {d : Nat} {w : hb_W} {Q : Option hb_V → hb_W → Prop} {x1 : Int32} {x2 : Int32} {xs0 : Int32} (h : hb_O yX12_asks cX12_asks 2 none d [hb_r 12 0 0, hb_r 12 0 8] w (fun rv w1 => hb_R yX12_hoodsTold cX12_hoodsTold 7 none (d + 1) 54 [some (hb_r 12 0 0), some (hb_i x1), some (hb_i x2), some (hb_i xs0), none, none, none] (rv.toList ++ []) w1 Q)) : hb_R yX12_hoodsTold cX12_hoodsTold 7 none (d + 1) 45 [some (hb_r 12 0 0), some (hb_i x1), some (hb_i x2), none, none, none, none] [hb_i xs0] w Q := by
  refine hb_istore_n (pc := 45) (i := 3) (ls1 := [some (hb_r 12 0 0), some (hb_i x1), some (hb_i x2), some (hb_i xs0), none, none, none]) dX12_hoodsTold_45 rfl (by decide) rfl ?_
  refine hb_aload_n (pc := 46) (i := 0) dX12_hoodsTold_46 rfl rfl ?_
  refine hb_aload_n (pc := 47) (i := 0) dX12_hoodsTold_47 rfl rfl ?_
  refine hb_getR (pc := 48) (g1 := 0) dX12_hoodsTold_48 fw_X12_36 cw_12 rfl (by decide) rfl (by decide) rfl ?_
  exact hb_callV (pc := 51) (As := [hb_r 12 0 8]) (st := []) dX12_hoodsTold_51 ml_X12_245 mf_X12_asks mi_X12_asks (ci := 12) rfl rfl (by decide) rfl rfl (Nat.le_of_ble_eq_true rfl) (Nat.le_of_ble_eq_true rfl) h (fun _ _ q => q)
set_option maxRecDepth 20000 in
theorem bk_X12_hoodsTold_54 {d : Nat} {w : hb_W} {Q : Option hb_V → hb_W → Prop} {x1 : Int32} {x2 : Int32} {x3 : Int32} (h : hb_O yX12_number cX12_number 5 (some .int) d [hb_r 12 0 0, hb_i (0 : Int32), hb_i (63 : Int32)] w (fun rv w1 => hb_R yX12_hoodsTold cX12_hoodsTold 7 none (d + 1) 61 [some (hb_r 12 0 0), some (hb_i x1), some (hb_i x2), some (hb_i x3), none, none, none] (rv.toList ++ []) w1 Q)) : hb_R yX12_hoodsTold cX12_hoodsTold 7 none (d + 1) 54 [some (hb_r 12 0 0), some (hb_i x1), some (hb_i x2), some (hb_i x3), none, none, none] [] w Q := by
  refine hb_aload_n (pc := 54) (i := 0) dX12_hoodsTold_54 rfl rfl ?_
  refine hb_iconst (pc := 55) (v := 0) dX12_hoodsTold_55 (by decide) ?_
  refine hb_bipush (pc := 56) (v := 63) dX12_hoodsTold_56 (by decide) ?_
  exact hb_callV (pc := 58) (As := [hb_i (0 : Int32), hb_i (63 : Int32)]) (st := []) dX12_hoodsTold_58 ml_X12_249 mf_X12_number mi_X12_number (ci := 12) rfl rfl (by decide) rfl rfl (Nat.le_of_ble_eq_true rfl) (Nat.le_of_ble_eq_true rfl) h (fun _ _ q => q)
set_option maxRecDepth 20000 in
theorem bk_X12_hoodsTold_61 {d : Nat} {w : hb_W} {Q : Option hb_V → hb_W → Prop} {x1 : Int32} {x2 : Int32} {x3 : Int32} {xs0 : Int32} (h : hb_O yX12_asks cX12_asks 2 none d [hb_r 12 0 0, hb_r 12 0 9] w (fun rv w1 => hb_R yX12_hoodsTold cX12_hoodsTold 7 none (d + 1) 71 [some (hb_r 12 0 0), some (hb_i x1), some (hb_i x2), some (hb_i x3), some (hb_i xs0), none, none] (rv.toList ++ []) w1 Q)) : hb_R yX12_hoodsTold cX12_hoodsTold 7 none (d + 1) 61 [some (hb_r 12 0 0), some (hb_i x1), some (hb_i x2), some (hb_i x3), none, none, none] [hb_i xs0] w Q := by
  refine hb_istore (pc := 61) (i := 4) (ls1 := [some (hb_r 12 0 0), some (hb_i x1), some (hb_i x2), some (hb_i x3), some (hb_i xs0), none, none]) dX12_hoodsTold_61 (by decide) rfl ?_
  refine hb_aload_n (pc := 63) (i := 0) dX12_hoodsTold_63 rfl rfl ?_
  refine hb_aload_n (pc := 64) (i := 0) dX12_hoodsTold_64 rfl rfl ?_
  refine hb_getR (pc := 65) (g1 := 0) dX12_hoodsTold_65 fw_X12_39 cw_12 rfl (by decide) rfl (by decide) rfl ?_
  exact hb_callV (pc := 68) (As := [hb_r 12 0 9]) (st := []) dX12_hoodsTold_68 ml_X12_245 mf_X12_asks mi_X12_asks (ci := 12) rfl rfl (by decide) rfl rfl (Nat.le_of_ble_eq_true rfl) (Nat.le_of_ble_eq_true rfl) h (fun _ _ q => q)
set_option maxRecDepth 20000 in
theorem bk_X12_hoodsTold_71 {d : Nat} {w : hb_W} {Q : Option hb_V → hb_W → Prop} {x1 : Int32} {x2 : Int32} {x3 : Int32} {x4 : Int32} (h : (((hb_fI w 12 5 0) = 0) → hb_O yX12_codesTold cX12_codesTold 3 none d [hb_r 12 0 0, hb_i (hb_fI w 12 22 0)] w (fun rv w1 => hb_R yX12_hoodsTold cX12_hoodsTold 7 none (d + 1) 87 [some (hb_r 12 0 0), some (hb_i x1), some (hb_i x2), some (hb_i x3), some (hb_i x4), none, none] (rv.toList ++ []) w1 Q)) ∧ ((¬ (hb_fI w 12 5 0) = 0) → Q none w)) : hb_R yX12_hoodsTold cX12_hoodsTold 7 none (d + 1) 71 [some (hb_r 12 0 0), some (hb_i x1), some (hb_i x2), some (hb_i x3), some (hb_i x4), none, none] [] w Q := by
  refine hb_aload_n (pc := 71) (i := 0) dX12_hoodsTold_71 rfl rfl ?_
  refine hb_getIx (pc := 72) (x := hb_fI w 12 5 0) dX12_hoodsTold_72 fw_X12_195 cw_12 rfl (by decide) rfl rfl ?_
  refine hb_if_eq (pc := 75) (tgt := 79) dX12_hoodsTold_75 (by decide) (fun c1 => ?_) (fun c1 => ?_)
  · have ht1 := h.1 c1
    refine hb_aload_n (pc := 79) (i := 0) dX12_hoodsTold_79 rfl rfl ?_
    refine hb_aload_n (pc := 80) (i := 0) dX12_hoodsTold_80 rfl rfl ?_
    refine hb_getIx (pc := 81) (x := hb_fI w 12 22 0) dX12_hoodsTold_81 fw_X12_275 cw_12 rfl (by decide) rfl rfl ?_
    exact hb_callV (pc := 84) (As := [hb_i (hb_fI w 12 22 0)]) (st := []) dX12_hoodsTold_84 ml_X12_278 mf_X12_codesTold mi_X12_codesTold (ci := 12) rfl rfl (by decide) rfl rfl (Nat.le_of_ble_eq_true rfl) (Nat.le_of_ble_eq_true rfl) ht1 (fun _ _ q => q)
  · have ht1 := h.2 c1
    exact hb_vret (pc := 78) dX12_hoodsTold_78 rfl ht1
set_option maxRecDepth 20000 in
theorem bk_X12_hoodsTold_87 {d : Nat} {w : hb_W} {Q : Option hb_V → hb_W → Prop} {x1 : Int32} {x2 : Int32} {x3 : Int32} {x4 : Int32} (h : hb_O yX12_asks cX12_asks 2 none d [hb_r 12 0 0, hb_r 12 0 10] w (fun rv w1 => hb_R yX12_hoodsTold cX12_hoodsTold 7 none (d + 1) 95 [some (hb_r 12 0 0), some (hb_i x1), some (hb_i x2), some (hb_i x3), some (hb_i x4), none, none] (rv.toList ++ []) w1 Q)) : hb_R yX12_hoodsTold cX12_hoodsTold 7 none (d + 1) 87 [some (hb_r 12 0 0), some (hb_i x1), some (hb_i x2), some (hb_i x3), some (hb_i x4), none, none] [] w Q := by
  refine hb_aload_n (pc := 87) (i := 0) dX12_hoodsTold_87 rfl rfl ?_
  refine hb_aload_n (pc := 88) (i := 0) dX12_hoodsTold_88 rfl rfl ?_
  refine hb_getR (pc := 89) (g1 := 0) dX12_hoodsTold_89 fw_X12_42 cw_12 rfl (by decide) rfl (by decide) rfl ?_
  exact hb_callV (pc := 92) (As := [hb_r 12 0 10]) (st := []) dX12_hoodsTold_92 ml_X12_245 mf_X12_asks mi_X12_asks (ci := 12) rfl rfl (by decide) rfl rfl (Nat.le_of_ble_eq_true rfl) (Nat.le_of_ble_eq_true rfl) h (fun _ _ q => q)
set_option maxRecDepth 20000 in
theorem bk_X12_hoodsTold_95 {d : Nat} {w : hb_W} {Q : Option hb_V → hb_W → Prop} {x1 : Int32} {x2 : Int32} {x3 : Int32} {x4 : Int32} (h : hb_O yX12_number cX12_number 5 (some .int) d [hb_r 12 0 0, hb_i (0 : Int32), hb_i (1 : Int32)] w (fun rv w1 => hb_R yX12_hoodsTold cX12_hoodsTold 7 none (d + 1) 101 [some (hb_r 12 0 0), some (hb_i x1), some (hb_i x2), some (hb_i x3), some (hb_i x4), none, none] (rv.toList ++ []) w1 Q)) : hb_R yX12_hoodsTold cX12_hoodsTold 7 none (d + 1) 95 [some (hb_r 12 0 0), some (hb_i x1), some (hb_i x2), some (hb_i x3), some (hb_i x4), none, none] [] w Q := by
  refine hb_aload_n (pc := 95) (i := 0) dX12_hoodsTold_95 rfl rfl ?_
  refine hb_iconst (pc := 96) (v := 0) dX12_hoodsTold_96 (by decide) ?_
  refine hb_iconst (pc := 97) (v := 1) dX12_hoodsTold_97 (by decide) ?_
  exact hb_callV (pc := 98) (As := [hb_i (0 : Int32), hb_i (1 : Int32)]) (st := []) dX12_hoodsTold_98 ml_X12_249 mf_X12_number mi_X12_number (ci := 12) rfl rfl (by decide) rfl rfl (Nat.le_of_ble_eq_true rfl) (Nat.le_of_ble_eq_true rfl) h (fun _ _ q => q)
set_option maxRecDepth 20000 in
theorem bk_X12_hoodsTold_101 {d : Nat} {w : hb_W} {Q : Option hb_V → hb_W → Prop} {x1 : Int32} {x2 : Int32} {x3 : Int32} {x4 : Int32} {xs0 : Int32} (h : (((hb_fI w 12 5 0) = 0) → vp_in ((4 : Int32) * (hb_fI w 12 22 0)) 160 ∧ (vp_in (((4 : Int32) * (hb_fI w 12 22 0)) + (1 : Int32)) 160 ∧ (vp_in (((4 : Int32) * (hb_fI w 12 22 0)) + (2 : Int32)) 160 ∧ (vp_in (((4 : Int32) * (hb_fI w 12 22 0)) + (3 : Int32)) 160 ∧ (Q none (hb_pI (hb_sI (hb_sI (hb_sI (hb_sI w 12 14 0 (upd (hb_aI w 12 14 0) ((4 : Int32) * (hb_fI w 12 22 0)).toNatClampNeg x2)) 12 14 0 (upd (upd (hb_aI w 12 14 0) ((4 : Int32) * (hb_fI w 12 22 0)).toNatClampNeg x2) (((4 : Int32) * (hb_fI w 12 22 0)) + (1 : Int32)).toNatClampNeg x3)) 12 14 0 (upd (upd (upd (hb_aI w 12 14 0) ((4 : Int32) * (hb_fI w 12 22 0)).toNatClampNeg x2) (((4 : Int32) * (hb_fI w 12 22 0)) + (1 : Int32)).toNatClampNeg x3) (((4 : Int32) * (hb_fI w 12 22 0)) + (2 : Int32)).toNatClampNeg x4)) 12 14 0 (upd (upd (upd (upd (hb_aI w 12 14 0) ((4 : Int32) * (hb_fI w 12 22 0)).toNatClampNeg x2) (((4 : Int32) * (hb_fI w 12 22 0)) + (1 : Int32)).toNatClampNeg x3) (((4 : Int32) * (hb_fI w 12 22 0)) + (2 : Int32)).toNatClampNeg x4) (((4 : Int32) * (hb_fI w 12 22 0)) + (3 : Int32)).toNatClampNeg xs0)) 12 22 0 ((hb_fI w 12 22 0) + (1 : Int32)))))))) ∧ ((¬ (hb_fI w 12 5 0) = 0) → Q none w)) : hb_R yX12_hoodsTold cX12_hoodsTold 7 none (d + 1) 101 [some (hb_r 12 0 0), some (hb_i x1), some (hb_i x2), some (hb_i x3), some (hb_i x4), none, none] [hb_i xs0] w Q := by
  refine hb_istore (pc := 101) (i := 5) (ls1 := [some (hb_r 12 0 0), some (hb_i x1), some (hb_i x2), some (hb_i x3), some (hb_i x4), some (hb_i xs0), none]) dX12_hoodsTold_101 (by decide) rfl ?_
  refine hb_aload_n (pc := 103) (i := 0) dX12_hoodsTold_103 rfl rfl ?_
  refine hb_getIx (pc := 104) (x := hb_fI w 12 5 0) dX12_hoodsTold_104 fw_X12_195 cw_12 rfl (by decide) rfl rfl ?_
  refine hb_if_eq (pc := 107) (tgt := 111) dX12_hoodsTold_107 (by decide) (fun c1 => ?_) (fun c1 => ?_)
  · have ht1 := h.1 c1
    refine hb_iconst (pc := 111) (v := 4) dX12_hoodsTold_111 (by decide) ?_
    refine hb_aload_n (pc := 112) (i := 0) dX12_hoodsTold_112 rfl rfl ?_
    refine hb_getIx (pc := 113) (x := hb_fI w 12 22 0) dX12_hoodsTold_113 fw_X12_275 cw_12 rfl (by decide) rfl rfl ?_
    refine hb_imul (pc := 116) dX12_hoodsTold_116 ?_
    refine hb_istore (pc := 117) (i := 6) (ls1 := [some (hb_r 12 0 0), some (hb_i x1), some (hb_i x2), some (hb_i x3), some (hb_i x4), some (hb_i xs0), some (hb_i ((4 : Int32) * (hb_fI w 12 22 0)))]) dX12_hoodsTold_117 (by decide) rfl ?_
    refine hb_aload_n (pc := 119) (i := 0) dX12_hoodsTold_119 rfl rfl ?_
    refine hb_getR (pc := 120) (g1 := 0) dX12_hoodsTold_120 fw_X12_54 cw_12 rfl (by decide) rfl (by decide) rfl ?_
    refine hb_iload (pc := 123) dX12_hoodsTold_123 rfl ?_
    refine hb_iload_n (pc := 125) (i := 2) dX12_hoodsTold_125 rfl rfl ?_
    obtain ⟨ho2, hr2⟩ := ht1
    refine hb_iastx (pc := 126) (f := upd (hb_aI w 12 14 0) ((4 : Int32) * (hb_fI w 12 22 0)).toNatClampNeg x2) dX12_hoodsTold_126 rfl (by decide) ho2 rfl ?_
    refine hb_aload_n (pc := 127) (i := 0) dX12_hoodsTold_127 rfl rfl ?_
    refine hb_getR (pc := 128) (g1 := 0) dX12_hoodsTold_128 fw_X12_54 cw_12 rfl (by decide) rfl (by decide) rfl ?_
    refine hb_iload (pc := 131) dX12_hoodsTold_131 rfl ?_
    refine hb_iconst (pc := 133) (v := 1) dX12_hoodsTold_133 (by decide) ?_
    refine hb_iadd (pc := 134) dX12_hoodsTold_134 ?_
    refine hb_iload_n (pc := 135) (i := 3) dX12_hoodsTold_135 rfl rfl ?_
    obtain ⟨ho3, hr3⟩ := hr2
    refine hb_iastx (pc := 136) (f := upd (upd (hb_aI w 12 14 0) ((4 : Int32) * (hb_fI w 12 22 0)).toNatClampNeg x2) (((4 : Int32) * (hb_fI w 12 22 0)) + (1 : Int32)).toNatClampNeg x3) dX12_hoodsTold_136 rfl (by decide) ho3 rfl ?_
    refine hb_aload_n (pc := 137) (i := 0) dX12_hoodsTold_137 rfl rfl ?_
    refine hb_getR (pc := 138) (g1 := 0) dX12_hoodsTold_138 fw_X12_54 cw_12 rfl (by decide) rfl (by decide) rfl ?_
    refine hb_iload (pc := 141) dX12_hoodsTold_141 rfl ?_
    refine hb_iconst (pc := 143) (v := 2) dX12_hoodsTold_143 (by decide) ?_
    refine hb_iadd (pc := 144) dX12_hoodsTold_144 ?_
    refine hb_iload (pc := 145) dX12_hoodsTold_145 rfl ?_
    obtain ⟨ho4, hr4⟩ := hr3
    refine hb_iastx (pc := 147) (f := upd (upd (upd (hb_aI w 12 14 0) ((4 : Int32) * (hb_fI w 12 22 0)).toNatClampNeg x2) (((4 : Int32) * (hb_fI w 12 22 0)) + (1 : Int32)).toNatClampNeg x3) (((4 : Int32) * (hb_fI w 12 22 0)) + (2 : Int32)).toNatClampNeg x4) dX12_hoodsTold_147 rfl (by decide) ho4 rfl ?_
    refine hb_aload_n (pc := 148) (i := 0) dX12_hoodsTold_148 rfl rfl ?_
    refine hb_getR (pc := 149) (g1 := 0) dX12_hoodsTold_149 fw_X12_54 cw_12 rfl (by decide) rfl (by decide) rfl ?_
    refine hb_iload (pc := 152) dX12_hoodsTold_152 rfl ?_
    refine hb_iconst (pc := 154) (v := 3) dX12_hoodsTold_154 (by decide) ?_
    refine hb_iadd (pc := 155) dX12_hoodsTold_155 ?_
    refine hb_iload (pc := 156) dX12_hoodsTold_156 rfl ?_
    obtain ⟨ho5, hr5⟩ := hr4
    refine hb_iastx (pc := 158) (f := upd (upd (upd (upd (hb_aI w 12 14 0) ((4 : Int32) * (hb_fI w 12 22 0)).toNatClampNeg x2) (((4 : Int32) * (hb_fI w 12 22 0)) + (1 : Int32)).toNatClampNeg x3) (((4 : Int32) * (hb_fI w 12 22 0)) + (2 : Int32)).toNatClampNeg x4) (((4 : Int32) * (hb_fI w 12 22 0)) + (3 : Int32)).toNatClampNeg xs0) dX12_hoodsTold_158 rfl (by decide) ho5 rfl ?_
    refine hb_aload_n (pc := 159) (i := 0) dX12_hoodsTold_159 rfl rfl ?_
    refine hb_dupr (pc := 160) dX12_hoodsTold_160 ?_
    refine hb_getIx (pc := 161) (x := hb_fI w 12 22 0) dX12_hoodsTold_161 fw_X12_275 cw_12 rfl (by decide) rfl rfl ?_
    refine hb_iconst (pc := 164) (v := 1) dX12_hoodsTold_164 (by decide) ?_
    refine hb_iadd (pc := 165) dX12_hoodsTold_165 ?_
    refine hb_putI (pc := 166) dX12_hoodsTold_166 fw_X12_275 cw_12 pw_12_22 rfl (by decide) rfl rfl rfl ?_
    exact hb_vret (pc := 169) dX12_hoodsTold_169 rfl hr5
  · have ht1 := h.2 c1
    exact hb_vret (pc := 110) dX12_hoodsTold_110 rfl ht1
theorem dX12_mixTold_0 : decode cX12_mixTold 0 = .ok (.aload_n 0, 1) := by decide +kernel
theorem dX12_mixTold_1 : decode cX12_mixTold 1 = .ok (.getfield 195, 3) := by decide +kernel
theorem dX12_mixTold_4 : decode cX12_mixTold 4 = .ok (.ifCond .ne 20, 3) := by decide +kernel
theorem dX12_mixTold_7 : decode cX12_mixTold 7 = .ok (.aload_n 0, 1) := by decide +kernel
theorem dX12_mixTold_8 : decode cX12_mixTold 8 = .ok (.getfield 57, 3) := by decide +kernel
theorem dX12_mixTold_11 : decode cX12_mixTold 11 = .ok (.bipush 20, 2) := by decide +kernel
theorem dX12_mixTold_13 : decode cX12_mixTold 13 = .ok (.iaload, 1) := by decide +kernel
theorem dX12_mixTold_14 : decode cX12_mixTold 14 = .ok (.iconst (-1), 1) := by decide +kernel
theorem dX12_mixTold_15 : decode cX12_mixTold 15 = .ok (.if_icmp .eq 9, 3) := by decide +kernel
theorem dX12_mixTold_18 : decode cX12_mixTold 18 = .ok (.aload_n 0, 1) := by decide +kernel
theorem dX12_mixTold_19 : decode cX12_mixTold 19 = .ok (.iconst 5, 1) := by decide +kernel
theorem dX12_mixTold_20 : decode cX12_mixTold 20 = .ok (.iload_n 1, 1) := by decide +kernel
theorem dX12_mixTold_21 : decode cX12_mixTold 21 = .ok (.invokevirtual 225, 3) := by decide +kernel
theorem dX12_mixTold_24 : decode cX12_mixTold 24 = .ok (.aload_n 0, 1) := by decide +kernel
theorem dX12_mixTold_25 : decode cX12_mixTold 25 = .ok (.getfield 195, 3) := by decide +kernel
theorem dX12_mixTold_28 : decode cX12_mixTold 28 = .ok (.ifCond .ne 9, 3) := by decide +kernel
theorem dX12_mixTold_31 : decode cX12_mixTold 31 = .ok (.aload_n 0, 1) := by decide +kernel
theorem dX12_mixTold_32 : decode cX12_mixTold 32 = .ok (.bipush 20, 2) := by decide +kernel
theorem dX12_mixTold_34 : decode cX12_mixTold 34 = .ok (.invokevirtual 278, 3) := by decide +kernel
theorem dX12_mixTold_37 : decode cX12_mixTold 37 = .ok (.return_, 1) := by decide +kernel
set_option maxRecDepth 20000 in
theorem bk_X12_mixTold_0 {d : Nat} {w : hb_W} {Q : Option hb_V → hb_W → Prop} {x1 : Int32} (h : ((¬ (hb_fI w 12 5 0) = 0) → hb_R yX12_mixTold cX12_mixTold 2 none (d + 1) 24 [some (hb_r 12 0 0), some (hb_i x1)] [] w Q) ∧ (((hb_fI w 12 5 0) = 0) → (((hb_aI w 12 15 0 (20 : Int32).toNatClampNeg) = (-1 : Int32)) → hb_R yX12_mixTold cX12_mixTold 2 none (d + 1) 24 [some (hb_r 12 0 0), some (hb_i x1)] [] w Q) ∧ ((¬ (hb_aI w 12 15 0 (20 : Int32).toNatClampNeg) = (-1 : Int32)) → hb_O yX12_fail cX12_fail 3 none d [hb_r 12 0 0, hb_i (5 : Int32), hb_i x1] w (fun rv w1 => hb_R yX12_mixTold cX12_mixTold 2 none (d + 1) 24 [some (hb_r 12 0 0), some (hb_i x1)] (rv.toList ++ []) w1 Q)))) : hb_R yX12_mixTold cX12_mixTold 2 none (d + 1) 0 [some (hb_r 12 0 0), some (hb_i x1)] [] w Q := by
  refine hb_aload_n (pc := 0) (i := 0) dX12_mixTold_0 rfl rfl ?_
  refine hb_getIx (pc := 1) (x := hb_fI w 12 5 0) dX12_mixTold_1 fw_X12_195 cw_12 rfl (by decide) rfl rfl ?_
  refine hb_if_ne (pc := 4) (tgt := 24) dX12_mixTold_4 (by decide) (fun c1 => ?_) (fun c1 => ?_)
  · have ht1 := h.1 c1
    exact ht1
  · have ht1 := h.2 c1
    refine hb_aload_n (pc := 7) (i := 0) dX12_mixTold_7 rfl rfl ?_
    refine hb_getR (pc := 8) (g1 := 0) dX12_mixTold_8 fw_X12_57 cw_12 rfl (by decide) rfl (by decide) rfl ?_
    refine hb_bipush (pc := 11) (v := 20) dX12_mixTold_11 (by decide) ?_
    refine hb_ialdx (pc := 13) (x := hb_aI w 12 15 0 (20 : Int32).toNatClampNeg) dX12_mixTold_13 (n := 42) rfl (by decide) (by unfold vp_in; decide) rfl ?_
    refine hb_iconst (pc := 14) (v := -1) dX12_mixTold_14 (by decide) ?_
    refine hb_icmp_eq (pc := 15) (tgt := 24) dX12_mixTold_15 (by decide) (fun c2 => ?_) (fun c2 => ?_)
    · have ht2 := ht1.1 c2
      exact ht2
    · have ht2 := ht1.2 c2
      refine hb_aload_n (pc := 18) (i := 0) dX12_mixTold_18 rfl rfl ?_
      refine hb_iconst (pc := 19) (v := 5) dX12_mixTold_19 (by decide) ?_
      refine hb_iload_n (pc := 20) (i := 1) dX12_mixTold_20 rfl rfl ?_
      exact hb_callV (pc := 21) (As := [hb_i (5 : Int32), hb_i x1]) (st := []) dX12_mixTold_21 ml_X12_225 mf_X12_fail mi_X12_fail (ci := 12) rfl rfl (by decide) rfl rfl (Nat.le_of_ble_eq_true rfl) (Nat.le_of_ble_eq_true rfl) ht2 (fun _ _ q => q)
set_option maxRecDepth 20000 in
theorem bk_X12_mixTold_24 {d : Nat} {w : hb_W} {Q : Option hb_V → hb_W → Prop} {x1 : Int32} (h : ((¬ (hb_fI w 12 5 0) = 0) → hb_R yX12_mixTold cX12_mixTold 2 none (d + 1) 37 [some (hb_r 12 0 0), some (hb_i x1)] [] w Q) ∧ (((hb_fI w 12 5 0) = 0) → hb_O yX12_codesTold cX12_codesTold 3 none d [hb_r 12 0 0, hb_i (20 : Int32)] w (fun rv w1 => hb_R yX12_mixTold cX12_mixTold 2 none (d + 1) 37 [some (hb_r 12 0 0), some (hb_i x1)] (rv.toList ++ []) w1 Q))) : hb_R yX12_mixTold cX12_mixTold 2 none (d + 1) 24 [some (hb_r 12 0 0), some (hb_i x1)] [] w Q := by
  refine hb_aload_n (pc := 24) (i := 0) dX12_mixTold_24 rfl rfl ?_
  refine hb_getIx (pc := 25) (x := hb_fI w 12 5 0) dX12_mixTold_25 fw_X12_195 cw_12 rfl (by decide) rfl rfl ?_
  refine hb_if_ne (pc := 28) (tgt := 37) dX12_mixTold_28 (by decide) (fun c1 => ?_) (fun c1 => ?_)
  · have ht1 := h.1 c1
    exact ht1
  · have ht1 := h.2 c1
    refine hb_aload_n (pc := 31) (i := 0) dX12_mixTold_31 rfl rfl ?_
    refine hb_bipush (pc := 32) (v := 20) dX12_mixTold_32 (by decide) ?_
    exact hb_callV (pc := 34) (As := [hb_i (20 : Int32)]) (st := []) dX12_mixTold_34 ml_X12_278 mf_X12_codesTold mi_X12_codesTold (ci := 12) rfl rfl (by decide) rfl rfl (Nat.le_of_ble_eq_true rfl) (Nat.le_of_ble_eq_true rfl) ht1 (fun _ _ q => q)
set_option maxRecDepth 20000 in
theorem bk_X12_mixTold_37 {d : Nat} {w : hb_W} {Q : Option hb_V → hb_W → Prop} {x1 : Int32} (h : Q none w) : hb_R yX12_mixTold cX12_mixTold 2 none (d + 1) 37 [some (hb_r 12 0 0), some (hb_i x1)] [] w Q := by
  exact hb_vret (pc := 37) dX12_mixTold_37 rfl h
theorem dX12_statementTold_0 : decode cX12_statementTold 0 = .ok (.aload_n 0, 1) := by decide +kernel
theorem dX12_statementTold_1 : decode cX12_statementTold 1 = .ok (.getfield 201, 3) := by decide +kernel
theorem dX12_statementTold_4 : decode cX12_statementTold 4 = .ok (.istore_n 1, 1) := by decide +kernel
theorem dX12_statementTold_5 : decode cX12_statementTold 5 = .ok (.aload_n 0, 1) := by decide +kernel
theorem dX12_statementTold_6 : decode cX12_statementTold 6 = .ok (.getfield 281, 3) := by decide +kernel
theorem dX12_statementTold_9 : decode cX12_statementTold 9 = .ok (.bipush 40, 2) := by decide +kernel
theorem dX12_statementTold_11 : decode cX12_statementTold 11 = .ok (.if_icmp .ne 10, 3) := by decide +kernel
theorem dX12_statementTold_14 : decode cX12_statementTold 14 = .ok (.aload_n 0, 1) := by decide +kernel
theorem dX12_statementTold_15 : decode cX12_statementTold 15 = .ok (.iconst 5, 1) := by decide +kernel
theorem dX12_statementTold_16 : decode cX12_statementTold 16 = .ok (.iload_n 1, 1) := by decide +kernel
theorem dX12_statementTold_17 : decode cX12_statementTold 17 = .ok (.invokevirtual 225, 3) := by decide +kernel
theorem dX12_statementTold_20 : decode cX12_statementTold 20 = .ok (.return_, 1) := by decide +kernel
theorem dX12_statementTold_21 : decode cX12_statementTold 21 = .ok (.aload_n 0, 1) := by decide +kernel
theorem dX12_statementTold_22 : decode cX12_statementTold 22 = .ok (.aload_n 0, 1) := by decide +kernel
theorem dX12_statementTold_23 : decode cX12_statementTold 23 = .ok (.getfield 30, 3) := by decide +kernel
theorem dX12_statementTold_26 : decode cX12_statementTold 26 = .ok (.invokevirtual 222, 3) := by decide +kernel
theorem dX12_statementTold_29 : decode cX12_statementTold 29 = .ok (.ifCond .eq 11, 3) := by decide +kernel
theorem dX12_statementTold_32 : decode cX12_statementTold 32 = .ok (.aload_n 0, 1) := by decide +kernel
theorem dX12_statementTold_33 : decode cX12_statementTold 33 = .ok (.iload_n 1, 1) := by decide +kernel
theorem dX12_statementTold_34 : decode cX12_statementTold 34 = .ok (.invokevirtual 284, 3) := by decide +kernel
theorem dX12_statementTold_37 : decode cX12_statementTold 37 = .ok (.goto 43, 3) := by decide +kernel
theorem dX12_statementTold_40 : decode cX12_statementTold 40 = .ok (.aload_n 0, 1) := by decide +kernel
theorem dX12_statementTold_41 : decode cX12_statementTold 41 = .ok (.aload_n 0, 1) := by decide +kernel
theorem dX12_statementTold_42 : decode cX12_statementTold 42 = .ok (.getfield 45, 3) := by decide +kernel
theorem dX12_statementTold_45 : decode cX12_statementTold 45 = .ok (.invokevirtual 222, 3) := by decide +kernel
theorem dX12_statementTold_48 : decode cX12_statementTold 48 = .ok (.ifCond .eq 11, 3) := by decide +kernel
theorem dX12_statementTold_51 : decode cX12_statementTold 51 = .ok (.aload_n 0, 1) := by decide +kernel
theorem dX12_statementTold_52 : decode cX12_statementTold 52 = .ok (.iload_n 1, 1) := by decide +kernel
theorem dX12_statementTold_53 : decode cX12_statementTold 53 = .ok (.invokevirtual 287, 3) := by decide +kernel
theorem dX12_statementTold_56 : decode cX12_statementTold 56 = .ok (.goto 24, 3) := by decide +kernel
theorem dX12_statementTold_59 : decode cX12_statementTold 59 = .ok (.aload_n 0, 1) := by decide +kernel
theorem dX12_statementTold_60 : decode cX12_statementTold 60 = .ok (.aload_n 0, 1) := by decide +kernel
theorem dX12_statementTold_61 : decode cX12_statementTold 61 = .ok (.getfield 48, 3) := by decide +kernel
theorem dX12_statementTold_64 : decode cX12_statementTold 64 = .ok (.invokevirtual 245, 3) := by decide +kernel
theorem dX12_statementTold_67 : decode cX12_statementTold 67 = .ok (.aload_n 0, 1) := by decide +kernel
theorem dX12_statementTold_68 : decode cX12_statementTold 68 = .ok (.getfield 51, 3) := by decide +kernel
theorem dX12_statementTold_71 : decode cX12_statementTold 71 = .ok (.iconst 5, 1) := by decide +kernel
theorem dX12_statementTold_72 : decode cX12_statementTold 72 = .ok (.aload_n 0, 1) := by decide +kernel
theorem dX12_statementTold_73 : decode cX12_statementTold 73 = .ok (.iconst 0, 1) := by decide +kernel
theorem dX12_statementTold_74 : decode cX12_statementTold 74 = .ok (.bipush 99, 2) := by decide +kernel
theorem dX12_statementTold_76 : decode cX12_statementTold 76 = .ok (.invokevirtual 249, 3) := by decide +kernel
theorem dX12_statementTold_79 : decode cX12_statementTold 79 = .ok (.iastore, 1) := by decide +kernel
theorem dX12_statementTold_80 : decode cX12_statementTold 80 = .ok (.aload_n 0, 1) := by decide +kernel
theorem dX12_statementTold_81 : decode cX12_statementTold 81 = .ok (.bipush 59, 2) := by decide +kernel
theorem dX12_statementTold_83 : decode cX12_statementTold 83 = .ok (.invokevirtual 253, 3) := by decide +kernel
theorem dX12_statementTold_86 : decode cX12_statementTold 86 = .ok (.aload_n 0, 1) := by decide +kernel
theorem dX12_statementTold_87 : decode cX12_statementTold 87 = .ok (.dup, 1) := by decide +kernel
theorem dX12_statementTold_88 : decode cX12_statementTold 88 = .ok (.getfield 281, 3) := by decide +kernel
theorem dX12_statementTold_91 : decode cX12_statementTold 91 = .ok (.iconst 1, 1) := by decide +kernel
theorem dX12_statementTold_92 : decode cX12_statementTold 92 = .ok (.iadd, 1) := by decide +kernel
theorem dX12_statementTold_93 : decode cX12_statementTold 93 = .ok (.putfield 281, 3) := by decide +kernel
theorem dX12_statementTold_96 : decode cX12_statementTold 96 = .ok (.return_, 1) := by decide +kernel
set_option maxRecDepth 20000 in
theorem bk_X12_statementTold_0 {d : Nat} {w : hb_W} {Q : Option hb_V → hb_W → Prop} (h : ((¬ (hb_fI w 12 29 0) = (40 : Int32)) → hb_O yX12_takes cX12_takes 2 (some .boolean) d [hb_r 12 0 0, hb_r 12 0 6] w (fun rv w1 => hb_R yX12_statementTold cX12_statementTold 2 none (d + 1) 29 [some (hb_r 12 0 0), some (hb_i (hb_fI w 12 2 0))] (rv.toList ++ []) w1 Q)) ∧ (((hb_fI w 12 29 0) = (40 : Int32)) → hb_O yX12_fail cX12_fail 3 none d [hb_r 12 0 0, hb_i (5 : Int32), hb_i (hb_fI w 12 2 0)] w (fun rv w1 => hb_R yX12_statementTold cX12_statementTold 2 none (d + 1) 20 [some (hb_r 12 0 0), some (hb_i (hb_fI w 12 2 0))] (rv.toList ++ []) w1 Q))) : hb_R yX12_statementTold cX12_statementTold 2 none (d + 1) 0 [some (hb_r 12 0 0), none] [] w Q := by
  refine hb_aload_n (pc := 0) (i := 0) dX12_statementTold_0 rfl rfl ?_
  refine hb_getIx (pc := 1) (x := hb_fI w 12 2 0) dX12_statementTold_1 fw_X12_201 cw_12 rfl (by decide) rfl rfl ?_
  refine hb_istore_n (pc := 4) (i := 1) (ls1 := [some (hb_r 12 0 0), some (hb_i (hb_fI w 12 2 0))]) dX12_statementTold_4 rfl (by decide) rfl ?_
  refine hb_aload_n (pc := 5) (i := 0) dX12_statementTold_5 rfl rfl ?_
  refine hb_getIx (pc := 6) (x := hb_fI w 12 29 0) dX12_statementTold_6 fw_X12_281 cw_12 rfl (by decide) rfl rfl ?_
  refine hb_bipush (pc := 9) (v := 40) dX12_statementTold_9 (by decide) ?_
  refine hb_icmp_ne (pc := 11) (tgt := 21) dX12_statementTold_11 (by decide) (fun c1 => ?_) (fun c1 => ?_)
  · have ht1 := h.1 c1
    refine hb_aload_n (pc := 21) (i := 0) dX12_statementTold_21 rfl rfl ?_
    refine hb_aload_n (pc := 22) (i := 0) dX12_statementTold_22 rfl rfl ?_
    refine hb_getR (pc := 23) (g1 := 0) dX12_statementTold_23 fw_X12_30 cw_12 rfl (by decide) rfl (by decide) rfl ?_
    exact hb_callV (pc := 26) (As := [hb_r 12 0 6]) (st := []) dX12_statementTold_26 ml_X12_222 mf_X12_takes mi_X12_takes (ci := 12) rfl rfl (by decide) rfl rfl (Nat.le_of_ble_eq_true rfl) (Nat.le_of_ble_eq_true rfl) ht1 (fun _ _ q => q)
  · have ht1 := h.2 c1
    refine hb_aload_n (pc := 14) (i := 0) dX12_statementTold_14 rfl rfl ?_
    refine hb_iconst (pc := 15) (v := 5) dX12_statementTold_15 (by decide) ?_
    refine hb_iload_n (pc := 16) (i := 1) dX12_statementTold_16 rfl rfl ?_
    exact hb_callV (pc := 17) (As := [hb_i (5 : Int32), hb_i (hb_fI w 12 2 0)]) (st := []) dX12_statementTold_17 ml_X12_225 mf_X12_fail mi_X12_fail (ci := 12) rfl rfl (by decide) rfl rfl (Nat.le_of_ble_eq_true rfl) (Nat.le_of_ble_eq_true rfl) ht1 (fun _ _ q => q)
set_option maxRecDepth 20000 in
theorem bk_X12_statementTold_20 {d : Nat} {w : hb_W} {Q : Option hb_V → hb_W → Prop} {x1 : Int32} (h : Q none w) : hb_R yX12_statementTold cX12_statementTold 2 none (d + 1) 20 [some (hb_r 12 0 0), some (hb_i x1)] [] w Q := by
  exact hb_vret (pc := 20) dX12_statementTold_20 rfl h
set_option maxRecDepth 20000 in
theorem bk_X12_statementTold_29 {d : Nat} {w : hb_W} {Q : Option hb_V → hb_W → Prop} {x1 : Int32} {xs0 : Int32} (h : ((xs0 = 0) → hb_O yX12_takes cX12_takes 2 (some .boolean) d [hb_r 12 0 0, hb_r 12 0 11] w (fun rv w1 => hb_R yX12_statementTold cX12_statementTold 2 none (d + 1) 48 [some (hb_r 12 0 0), some (hb_i x1)] (rv.toList ++ []) w1 Q)) ∧ ((¬ xs0 = 0) → hb_O yX12_hoodsTold cX12_hoodsTold 7 none d [hb_r 12 0 0, hb_i x1] w (fun rv w1 => hb_R yX12_statementTold cX12_statementTold 2 none (d + 1) 37 [some (hb_r 12 0 0), some (hb_i x1)] (rv.toList ++ []) w1 Q))) : hb_R yX12_statementTold cX12_statementTold 2 none (d + 1) 29 [some (hb_r 12 0 0), some (hb_i x1)] [hb_i xs0] w Q := by
  refine hb_if_eq (pc := 29) (tgt := 40) dX12_statementTold_29 (by decide) (fun c1 => ?_) (fun c1 => ?_)
  · have ht1 := h.1 c1
    refine hb_aload_n (pc := 40) (i := 0) dX12_statementTold_40 rfl rfl ?_
    refine hb_aload_n (pc := 41) (i := 0) dX12_statementTold_41 rfl rfl ?_
    refine hb_getR (pc := 42) (g1 := 0) dX12_statementTold_42 fw_X12_45 cw_12 rfl (by decide) rfl (by decide) rfl ?_
    exact hb_callV (pc := 45) (As := [hb_r 12 0 11]) (st := []) dX12_statementTold_45 ml_X12_222 mf_X12_takes mi_X12_takes (ci := 12) rfl rfl (by decide) rfl rfl (Nat.le_of_ble_eq_true rfl) (Nat.le_of_ble_eq_true rfl) ht1 (fun _ _ q => q)
  · have ht1 := h.2 c1
    refine hb_aload_n (pc := 32) (i := 0) dX12_statementTold_32 rfl rfl ?_
    refine hb_iload_n (pc := 33) (i := 1) dX12_statementTold_33 rfl rfl ?_
    exact hb_callV (pc := 34) (As := [hb_i x1]) (st := []) dX12_statementTold_34 ml_X12_284 mf_X12_hoodsTold mi_X12_hoodsTold (ci := 12) rfl rfl (by decide) rfl rfl (Nat.le_of_ble_eq_true rfl) (Nat.le_of_ble_eq_true rfl) ht1 (fun _ _ q => q)
set_option maxRecDepth 20000 in
theorem bk_X12_statementTold_37 {d : Nat} {w : hb_W} {Q : Option hb_V → hb_W → Prop} {x1 : Int32} (h : hb_O yX12_asksSign cX12_asksSign 2 none d [hb_r 12 0 0, hb_i (59 : Int32)] w (fun rv w1 => hb_R yX12_statementTold cX12_statementTold 2 none (d + 1) 86 [some (hb_r 12 0 0), some (hb_i x1)] (rv.toList ++ []) w1 Q)) : hb_R yX12_statementTold cX12_statementTold 2 none (d + 1) 37 [some (hb_r 12 0 0), some (hb_i x1)] [] w Q := by
  refine hb_goto (pc := 37) (tgt := 80) dX12_statementTold_37 (by decide) ?_
  refine hb_aload_n (pc := 80) (i := 0) dX12_statementTold_80 rfl rfl ?_
  refine hb_bipush (pc := 81) (v := 59) dX12_statementTold_81 (by decide) ?_
  exact hb_callV (pc := 83) (As := [hb_i (59 : Int32)]) (st := []) dX12_statementTold_83 ml_X12_253 mf_X12_asksSign mi_X12_asksSign (ci := 12) rfl rfl (by decide) rfl rfl (Nat.le_of_ble_eq_true rfl) (Nat.le_of_ble_eq_true rfl) h (fun _ _ q => q)
set_option maxRecDepth 20000 in
theorem bk_X12_statementTold_48 {d : Nat} {w : hb_W} {Q : Option hb_V → hb_W → Prop} {x1 : Int32} {xs0 : Int32} (h : ((xs0 = 0) → hb_O yX12_asks cX12_asks 2 none d [hb_r 12 0 0, hb_r 12 0 12] w (fun rv w1 => hb_R yX12_statementTold cX12_statementTold 2 none (d + 1) 67 [some (hb_r 12 0 0), some (hb_i x1)] (rv.toList ++ []) w1 Q)) ∧ ((¬ xs0 = 0) → hb_O yX12_mixTold cX12_mixTold 2 none d [hb_r 12 0 0, hb_i x1] w (fun rv w1 => hb_R yX12_statementTold cX12_statementTold 2 none (d + 1) 56 [some (hb_r 12 0 0), some (hb_i x1)] (rv.toList ++ []) w1 Q))) : hb_R yX12_statementTold cX12_statementTold 2 none (d + 1) 48 [some (hb_r 12 0 0), some (hb_i x1)] [hb_i xs0] w Q := by
  refine hb_if_eq (pc := 48) (tgt := 59) dX12_statementTold_48 (by decide) (fun c1 => ?_) (fun c1 => ?_)
  · have ht1 := h.1 c1
    refine hb_aload_n (pc := 59) (i := 0) dX12_statementTold_59 rfl rfl ?_
    refine hb_aload_n (pc := 60) (i := 0) dX12_statementTold_60 rfl rfl ?_
    refine hb_getR (pc := 61) (g1 := 0) dX12_statementTold_61 fw_X12_48 cw_12 rfl (by decide) rfl (by decide) rfl ?_
    exact hb_callV (pc := 64) (As := [hb_r 12 0 12]) (st := []) dX12_statementTold_64 ml_X12_245 mf_X12_asks mi_X12_asks (ci := 12) rfl rfl (by decide) rfl rfl (Nat.le_of_ble_eq_true rfl) (Nat.le_of_ble_eq_true rfl) ht1 (fun _ _ q => q)
  · have ht1 := h.2 c1
    refine hb_aload_n (pc := 51) (i := 0) dX12_statementTold_51 rfl rfl ?_
    refine hb_iload_n (pc := 52) (i := 1) dX12_statementTold_52 rfl rfl ?_
    exact hb_callV (pc := 53) (As := [hb_i x1]) (st := []) dX12_statementTold_53 ml_X12_287 mf_X12_mixTold mi_X12_mixTold (ci := 12) rfl rfl (by decide) rfl rfl (Nat.le_of_ble_eq_true rfl) (Nat.le_of_ble_eq_true rfl) ht1 (fun _ _ q => q)
set_option maxRecDepth 20000 in
theorem bk_X12_statementTold_56 {d : Nat} {w : hb_W} {Q : Option hb_V → hb_W → Prop} {x1 : Int32} (h : hb_O yX12_asksSign cX12_asksSign 2 none d [hb_r 12 0 0, hb_i (59 : Int32)] w (fun rv w1 => hb_R yX12_statementTold cX12_statementTold 2 none (d + 1) 86 [some (hb_r 12 0 0), some (hb_i x1)] (rv.toList ++ []) w1 Q)) : hb_R yX12_statementTold cX12_statementTold 2 none (d + 1) 56 [some (hb_r 12 0 0), some (hb_i x1)] [] w Q := by
  refine hb_goto (pc := 56) (tgt := 80) dX12_statementTold_56 (by decide) ?_
  refine hb_aload_n (pc := 80) (i := 0) dX12_statementTold_80 rfl rfl ?_
  refine hb_bipush (pc := 81) (v := 59) dX12_statementTold_81 (by decide) ?_
  exact hb_callV (pc := 83) (As := [hb_i (59 : Int32)]) (st := []) dX12_statementTold_83 ml_X12_253 mf_X12_asksSign mi_X12_asksSign (ci := 12) rfl rfl (by decide) rfl rfl (Nat.le_of_ble_eq_true rfl) (Nat.le_of_ble_eq_true rfl) h (fun _ _ q => q)
set_option maxRecDepth 20000 in
theorem bk_X12_statementTold_67 {d : Nat} {w : hb_W} {Q : Option hb_V → hb_W → Prop} {x1 : Int32} (h : hb_O yX12_number cX12_number 5 (some .int) d [hb_r 12 0 0, hb_i (0 : Int32), hb_i (99 : Int32)] w (fun rv w1 => hb_R yX12_statementTold cX12_statementTold 2 none (d + 1) 79 [some (hb_r 12 0 0), some (hb_i x1)] (rv.toList ++ [hb_i (5 : Int32), hb_r 12 0 13]) w1 Q)) : hb_R yX12_statementTold cX12_statementTold 2 none (d + 1) 67 [some (hb_r 12 0 0), some (hb_i x1)] [] w Q := by
  refine hb_aload_n (pc := 67) (i := 0) dX12_statementTold_67 rfl rfl ?_
  refine hb_getR (pc := 68) (g1 := 0) dX12_statementTold_68 fw_X12_51 cw_12 rfl (by decide) rfl (by decide) rfl ?_
  refine hb_iconst (pc := 71) (v := 5) dX12_statementTold_71 (by decide) ?_
  refine hb_aload_n (pc := 72) (i := 0) dX12_statementTold_72 rfl rfl ?_
  refine hb_iconst (pc := 73) (v := 0) dX12_statementTold_73 (by decide) ?_
  refine hb_bipush (pc := 74) (v := 99) dX12_statementTold_74 (by decide) ?_
  exact hb_callV (pc := 76) (As := [hb_i (0 : Int32), hb_i (99 : Int32)]) (st := [hb_i (5 : Int32), hb_r 12 0 13]) dX12_statementTold_76 ml_X12_249 mf_X12_number mi_X12_number (ci := 12) rfl rfl (by decide) rfl rfl (Nat.le_of_ble_eq_true rfl) (Nat.le_of_ble_eq_true rfl) h (fun _ _ q => q)
set_option maxRecDepth 20000 in
theorem bk_X12_statementTold_79 {d : Nat} {w : hb_W} {Q : Option hb_V → hb_W → Prop} {x1 : Int32} {xs1 : Int32} {xs2 : Int32} (h : vp_in xs1 6 ∧ (hb_O yX12_asksSign cX12_asksSign 2 none d [hb_r 12 0 0, hb_i (59 : Int32)] (hb_sI w 12 13 0 (upd (hb_aI w 12 13 0) xs1.toNatClampNeg xs2)) (fun rv w1 => hb_R yX12_statementTold cX12_statementTold 2 none (d + 1) 86 [some (hb_r 12 0 0), some (hb_i x1)] (rv.toList ++ []) w1 Q))) : hb_R yX12_statementTold cX12_statementTold 2 none (d + 1) 79 [some (hb_r 12 0 0), some (hb_i x1)] [hb_i xs2, hb_i xs1, hb_r 12 0 13] w Q := by
  obtain ⟨ho1, hr1⟩ := h
  refine hb_iastx (pc := 79) (f := upd (hb_aI w 12 13 0) xs1.toNatClampNeg xs2) dX12_statementTold_79 rfl (by decide) ho1 rfl ?_
  refine hb_aload_n (pc := 80) (i := 0) dX12_statementTold_80 rfl rfl ?_
  refine hb_bipush (pc := 81) (v := 59) dX12_statementTold_81 (by decide) ?_
  exact hb_callV (pc := 83) (As := [hb_i (59 : Int32)]) (st := []) dX12_statementTold_83 ml_X12_253 mf_X12_asksSign mi_X12_asksSign (ci := 12) rfl rfl (by decide) rfl rfl (Nat.le_of_ble_eq_true rfl) (Nat.le_of_ble_eq_true rfl) hr1 (fun _ _ q => q)
set_option maxRecDepth 20000 in
theorem bk_X12_statementTold_86 {d : Nat} {w : hb_W} {Q : Option hb_V → hb_W → Prop} {x1 : Int32} (h : Q none (hb_pI w 12 29 0 ((hb_fI w 12 29 0) + (1 : Int32)))) : hb_R yX12_statementTold cX12_statementTold 2 none (d + 1) 86 [some (hb_r 12 0 0), some (hb_i x1)] [] w Q := by
  refine hb_aload_n (pc := 86) (i := 0) dX12_statementTold_86 rfl rfl ?_
  refine hb_dupr (pc := 87) dX12_statementTold_87 ?_
  refine hb_getIx (pc := 88) (x := hb_fI w 12 29 0) dX12_statementTold_88 fw_X12_281 cw_12 rfl (by decide) rfl rfl ?_
  refine hb_iconst (pc := 91) (v := 1) dX12_statementTold_91 (by decide) ?_
  refine hb_iadd (pc := 92) dX12_statementTold_92 ?_
  refine hb_putI (pc := 93) dX12_statementTold_93 fw_X12_281 cw_12 pw_12_29 rfl (by decide) rfl rfl rfl ?_
  exact hb_vret (pc := 96) dX12_statementTold_96 rfl h
theorem dX12_open_0 : decode cX12_open 0 = .ok (.aload_n 0, 1) := by decide +kernel
theorem dX12_open_1 : decode cX12_open 1 = .ok (.aload_n 0, 1) := by decide +kernel
theorem dX12_open_2 : decode cX12_open 2 = .ok (.getfield 192, 3) := by decide +kernel
theorem dX12_open_5 : decode cX12_open 5 = .ok (.putfield 204, 3) := by decide +kernel
theorem dX12_open_8 : decode cX12_open 8 = .ok (.aload_n 0, 1) := by decide +kernel
theorem dX12_open_9 : decode cX12_open 9 = .ok (.iconst 0, 1) := by decide +kernel
theorem dX12_open_10 : decode cX12_open 10 = .ok (.putfield 192, 3) := by decide +kernel
theorem dX12_open_13 : decode cX12_open 13 = .ok (.aload_n 0, 1) := by decide +kernel
theorem dX12_open_14 : decode cX12_open 14 = .ok (.iconst 0, 1) := by decide +kernel
theorem dX12_open_15 : decode cX12_open 15 = .ok (.putfield 201, 3) := by decide +kernel
theorem dX12_open_18 : decode cX12_open 18 = .ok (.aload_n 0, 1) := by decide +kernel
theorem dX12_open_19 : decode cX12_open 19 = .ok (.iconst (-1), 1) := by decide +kernel
theorem dX12_open_20 : decode cX12_open 20 = .ok (.putfield 215, 3) := by decide +kernel
theorem dX12_open_23 : decode cX12_open 23 = .ok (.aload_n 0, 1) := by decide +kernel
theorem dX12_open_24 : decode cX12_open 24 = .ok (.iconst 0, 1) := by decide +kernel
theorem dX12_open_25 : decode cX12_open 25 = .ok (.putfield 195, 3) := by decide +kernel
theorem dX12_open_28 : decode cX12_open 28 = .ok (.aload_n 0, 1) := by decide +kernel
theorem dX12_open_29 : decode cX12_open 29 = .ok (.iconst (-1), 1) := by decide +kernel
theorem dX12_open_30 : decode cX12_open 30 = .ok (.putfield 198, 3) := by decide +kernel
theorem dX12_open_33 : decode cX12_open 33 = .ok (.aload_n 0, 1) := by decide +kernel
theorem dX12_open_34 : decode cX12_open 34 = .ok (.iconst 0, 1) := by decide +kernel
theorem dX12_open_35 : decode cX12_open 35 = .ok (.putfield 272, 3) := by decide +kernel
theorem dX12_open_38 : decode cX12_open 38 = .ok (.aload_n 0, 1) := by decide +kernel
theorem dX12_open_39 : decode cX12_open 39 = .ok (.iconst 0, 1) := by decide +kernel
theorem dX12_open_40 : decode cX12_open 40 = .ok (.putfield 275, 3) := by decide +kernel
theorem dX12_open_43 : decode cX12_open 43 = .ok (.aload_n 0, 1) := by decide +kernel
theorem dX12_open_44 : decode cX12_open 44 = .ok (.getfield 51, 3) := by decide +kernel
theorem dX12_open_47 : decode cX12_open 47 = .ok (.iconst 5, 1) := by decide +kernel
theorem dX12_open_48 : decode cX12_open 48 = .ok (.iconst 0, 1) := by decide +kernel
theorem dX12_open_49 : decode cX12_open 49 = .ok (.iastore, 1) := by decide +kernel
theorem dX12_open_50 : decode cX12_open 50 = .ok (.aload_n 0, 1) := by decide +kernel
theorem dX12_open_51 : decode cX12_open 51 = .ok (.getfield 57, 3) := by decide +kernel
theorem dX12_open_54 : decode cX12_open 54 = .ok (.bipush 20, 2) := by decide +kernel
theorem dX12_open_56 : decode cX12_open 56 = .ok (.iconst (-1), 1) := by decide +kernel
theorem dX12_open_57 : decode cX12_open 57 = .ok (.iastore, 1) := by decide +kernel
theorem dX12_open_58 : decode cX12_open 58 = .ok (.aload_n 0, 1) := by decide +kernel
theorem dX12_open_59 : decode cX12_open 59 = .ok (.invokevirtual 290, 3) := by decide +kernel
theorem dX12_open_62 : decode cX12_open 62 = .ok (.aload_n 0, 1) := by decide +kernel
theorem dX12_open_63 : decode cX12_open 63 = .ok (.iconst 1, 1) := by decide +kernel
theorem dX12_open_64 : decode cX12_open 64 = .ok (.putfield 281, 3) := by decide +kernel
theorem dX12_open_67 : decode cX12_open 67 = .ok (.aload_n 0, 1) := by decide +kernel
theorem dX12_open_68 : decode cX12_open 68 = .ok (.getfield 195, 3) := by decide +kernel
theorem dX12_open_71 : decode cX12_open 71 = .ok (.ifCond .ne 18, 3) := by decide +kernel
theorem dX12_open_74 : decode cX12_open 74 = .ok (.aload_n 0, 1) := by decide +kernel
theorem dX12_open_75 : decode cX12_open 75 = .ok (.invokevirtual 207, 3) := by decide +kernel
theorem dX12_open_78 : decode cX12_open 78 = .ok (.iconst (-1), 1) := by decide +kernel
theorem dX12_open_79 : decode cX12_open 79 = .ok (.if_icmp .eq 10, 3) := by decide +kernel
theorem dX12_open_82 : decode cX12_open 82 = .ok (.aload_n 0, 1) := by decide +kernel
theorem dX12_open_83 : decode cX12_open 83 = .ok (.invokevirtual 293, 3) := by decide +kernel
theorem dX12_open_86 : decode cX12_open 86 = .ok (.goto (-19), 3) := by decide +kernel
theorem dX12_open_89 : decode cX12_open 89 = .ok (.aload_n 0, 1) := by decide +kernel
theorem dX12_open_90 : decode cX12_open 90 = .ok (.aload_n 0, 1) := by decide +kernel
theorem dX12_open_91 : decode cX12_open 91 = .ok (.getfield 195, 3) := by decide +kernel
theorem dX12_open_94 : decode cX12_open 94 = .ok (.putfield 296, 3) := by decide +kernel
theorem dX12_open_97 : decode cX12_open 97 = .ok (.aload_n 0, 1) := by decide +kernel
theorem dX12_open_98 : decode cX12_open 98 = .ok (.aload_n 0, 1) := by decide +kernel
theorem dX12_open_99 : decode cX12_open 99 = .ok (.getfield 198, 3) := by decide +kernel
theorem dX12_open_102 : decode cX12_open 102 = .ok (.putfield 13, 3) := by decide +kernel
theorem dX12_open_105 : decode cX12_open 105 = .ok (.aload_n 0, 1) := by decide +kernel
theorem dX12_open_106 : decode cX12_open 106 = .ok (.getfield 195, 3) := by decide +kernel
theorem dX12_open_109 : decode cX12_open 109 = .ok (.ifCond .eq 15, 3) := by decide +kernel
theorem dX12_open_112 : decode cX12_open 112 = .ok (.aload_n 0, 1) := by decide +kernel
theorem dX12_open_113 : decode cX12_open 113 = .ok (.getfield 17, 3) := by decide +kernel
theorem dX12_open_116 : decode cX12_open 116 = .ok (.iconst 1, 1) := by decide +kernel
theorem dX12_open_117 : decode cX12_open 117 = .ok (.dup2, 1) := by decide +kernel
theorem dX12_open_118 : decode cX12_open 118 = .ok (.iaload, 1) := by decide +kernel
theorem dX12_open_119 : decode cX12_open 119 = .ok (.iconst 1, 1) := by decide +kernel
theorem dX12_open_120 : decode cX12_open 120 = .ok (.iadd, 1) := by decide +kernel
theorem dX12_open_121 : decode cX12_open 121 = .ok (.iastore, 1) := by decide +kernel
theorem dX12_open_122 : decode cX12_open 122 = .ok (.iconst (-1), 1) := by decide +kernel
theorem dX12_open_123 : decode cX12_open 123 = .ok (.ireturn, 1) := by decide +kernel
theorem dX12_open_124 : decode cX12_open 124 = .ok (.aload_n 0, 1) := by decide +kernel
theorem dX12_open_125 : decode cX12_open 125 = .ok (.invokevirtual 299, 3) := by decide +kernel
theorem dX12_open_128 : decode cX12_open 128 = .ok (.aload_n 0, 1) := by decide +kernel
theorem dX12_open_129 : decode cX12_open 129 = .ok (.getfield 281, 3) := by decide +kernel
theorem dX12_open_132 : decode cX12_open 132 = .ok (.ireturn, 1) := by decide +kernel
set_option maxRecDepth 20000 in
theorem bk_X12_open_0 {d : Nat} {w : hb_W} {Q : Option hb_V → hb_W → Prop} (h : hb_O yX12_bookTold cX12_bookTold 1 none d [hb_r 12 0 0] (hb_sI (hb_sI (hb_pI (hb_pI (hb_pI (hb_pI (hb_pI (hb_pI (hb_pI (hb_pI w 12 3 0 (hb_fI w 12 1 0)) 12 1 0 (0 : Int32)) 12 2 0 (0 : Int32)) 12 4 0 (-1 : Int32)) 12 5 0 (0 : Int32)) 12 6 0 (-1 : Int32)) 12 28 0 (0 : Int32)) 12 22 0 (0 : Int32)) 12 13 0 (upd (hb_aI w 12 13 0) (5 : Int32).toNatClampNeg (0 : Int32))) 12 15 0 (upd (hb_aI w 12 15 0) (20 : Int32).toNatClampNeg (-1 : Int32))) (fun rv w1 => hb_R yX12_open cX12_open 1 (some .int) (d + 1) 62 [some (hb_r 12 0 0)] (rv.toList ++ []) w1 Q)) : hb_R yX12_open cX12_open 1 (some .int) (d + 1) 0 [some (hb_r 12 0 0)] [] w Q := by
  refine hb_aload_n (pc := 0) (i := 0) dX12_open_0 rfl rfl ?_
  refine hb_aload_n (pc := 1) (i := 0) dX12_open_1 rfl rfl ?_
  refine hb_getIx (pc := 2) (x := hb_fI w 12 1 0) dX12_open_2 fw_X12_192 cw_12 rfl (by decide) rfl rfl ?_
  refine hb_putI (pc := 5) dX12_open_5 fw_X12_204 cw_12 pw_12_3 rfl (by decide) rfl rfl rfl ?_
  refine hb_aload_n (pc := 8) (i := 0) dX12_open_8 rfl rfl ?_
  refine hb_iconst (pc := 9) (v := 0) dX12_open_9 (by decide) ?_
  refine hb_putI (pc := 10) dX12_open_10 fw_X12_192 cw_12 pw_12_1 rfl (by decide) rfl rfl rfl ?_
  refine hb_aload_n (pc := 13) (i := 0) dX12_open_13 rfl rfl ?_
  refine hb_iconst (pc := 14) (v := 0) dX12_open_14 (by decide) ?_
  refine hb_putI (pc := 15) dX12_open_15 fw_X12_201 cw_12 pw_12_2 rfl (by decide) rfl rfl rfl ?_
  refine hb_aload_n (pc := 18) (i := 0) dX12_open_18 rfl rfl ?_
  refine hb_iconst (pc := 19) (v := -1) dX12_open_19 (by decide) ?_
  refine hb_putI (pc := 20) dX12_open_20 fw_X12_215 cw_12 pw_12_4 rfl (by decide) rfl rfl rfl ?_
  refine hb_aload_n (pc := 23) (i := 0) dX12_open_23 rfl rfl ?_
  refine hb_iconst (pc := 24) (v := 0) dX12_open_24 (by decide) ?_
  refine hb_putI (pc := 25) dX12_open_25 fw_X12_195 cw_12 pw_12_5 rfl (by decide) rfl rfl rfl ?_
  refine hb_aload_n (pc := 28) (i := 0) dX12_open_28 rfl rfl ?_
  refine hb_iconst (pc := 29) (v := -1) dX12_open_29 (by decide) ?_
  refine hb_putI (pc := 30) dX12_open_30 fw_X12_198 cw_12 pw_12_6 rfl (by decide) rfl rfl rfl ?_
  refine hb_aload_n (pc := 33) (i := 0) dX12_open_33 rfl rfl ?_
  refine hb_iconst (pc := 34) (v := 0) dX12_open_34 (by decide) ?_
  refine hb_putI (pc := 35) dX12_open_35 fw_X12_272 cw_12 pw_12_28 rfl (by decide) rfl rfl rfl ?_
  refine hb_aload_n (pc := 38) (i := 0) dX12_open_38 rfl rfl ?_
  refine hb_iconst (pc := 39) (v := 0) dX12_open_39 (by decide) ?_
  refine hb_putI (pc := 40) dX12_open_40 fw_X12_275 cw_12 pw_12_22 rfl (by decide) rfl rfl rfl ?_
  refine hb_aload_n (pc := 43) (i := 0) dX12_open_43 rfl rfl ?_
  refine hb_getR (pc := 44) (g1 := 0) dX12_open_44 fw_X12_51 cw_12 rfl (by decide) rfl (by decide) rfl ?_
  refine hb_iconst (pc := 47) (v := 5) dX12_open_47 (by decide) ?_
  refine hb_iconst (pc := 48) (v := 0) dX12_open_48 (by decide) ?_
  refine hb_iastx (pc := 49) (f := upd (hb_aI w 12 13 0) (5 : Int32).toNatClampNeg (0 : Int32)) dX12_open_49 (n := 6) rfl (by decide) (by unfold vp_in; decide) rfl ?_
  refine hb_aload_n (pc := 50) (i := 0) dX12_open_50 rfl rfl ?_
  refine hb_getR (pc := 51) (g1 := 0) dX12_open_51 fw_X12_57 cw_12 rfl (by decide) rfl (by decide) rfl ?_
  refine hb_bipush (pc := 54) (v := 20) dX12_open_54 (by decide) ?_
  refine hb_iconst (pc := 56) (v := -1) dX12_open_56 (by decide) ?_
  refine hb_iastx (pc := 57) (f := upd (hb_aI w 12 15 0) (20 : Int32).toNatClampNeg (-1 : Int32)) dX12_open_57 (n := 42) rfl (by decide) (by unfold vp_in; decide) rfl ?_
  refine hb_aload_n (pc := 58) (i := 0) dX12_open_58 rfl rfl ?_
  exact hb_callV (pc := 59) (As := []) (st := []) dX12_open_59 ml_X12_290 mf_X12_bookTold mi_X12_bookTold (ci := 12) rfl rfl (by decide) rfl rfl (Nat.le_of_ble_eq_true rfl) (Nat.le_of_ble_eq_true rfl) h (fun _ _ q => q)
set_option maxRecDepth 20000 in
theorem bk_X12_open_62 {d : Nat} {w : hb_W} {Q : Option hb_V → hb_W → Prop} (h : hb_R yX12_open cX12_open 1 (some .int) (d + 1) 67 [some (hb_r 12 0 0)] [] (hb_pI w 12 29 0 (1 : Int32)) Q) : hb_R yX12_open cX12_open 1 (some .int) (d + 1) 62 [some (hb_r 12 0 0)] [] w Q := by
  refine hb_aload_n (pc := 62) (i := 0) dX12_open_62 rfl rfl ?_
  refine hb_iconst (pc := 63) (v := 1) dX12_open_63 (by decide) ?_
  refine hb_putI (pc := 64) dX12_open_64 fw_X12_281 cw_12 pw_12_29 rfl (by decide) rfl rfl rfl ?_
  exact h
set_option maxRecDepth 20000 in
theorem bk_X12_open_67 {d : Nat} {w : hb_W} {Q : Option hb_V → hb_W → Prop} (h : ((¬ (hb_fI w 12 5 0) = 0) → (((hb_fI w 12 5 0) = 0) → hb_O yX12_stands cX12_stands 2 none d [hb_r 12 0 0] (hb_pI (hb_pI w 12 7 0 (hb_fI w 12 5 0)) 12 8 0 (hb_fI w 12 6 0)) (fun rv w1 => hb_R yX12_open cX12_open 1 (some .int) (d + 1) 128 [some (hb_r 12 0 0)] (rv.toList ++ []) w1 Q)) ∧ ((¬ (hb_fI w 12 5 0) = 0) → Q (some (hb_i (-1 : Int32))) (hb_sI (hb_pI (hb_pI w 12 7 0 (hb_fI w 12 5 0)) 12 8 0 (hb_fI w 12 6 0)) 12 2 0 (upd (hb_aI w 12 2 0) (1 : Int32).toNatClampNeg ((hb_aI w 12 2 0 (1 : Int32).toNatClampNeg) + (1 : Int32)))))) ∧ (((hb_fI w 12 5 0) = 0) → hb_O yX12_look cX12_look 1 (some .int) d [hb_r 12 0 0] w (fun rv w1 => hb_R yX12_open cX12_open 1 (some .int) (d + 1) 78 [some (hb_r 12 0 0)] (rv.toList ++ []) w1 Q))) : hb_R yX12_open cX12_open 1 (some .int) (d + 1) 67 [some (hb_r 12 0 0)] [] w Q := by
  refine hb_aload_n (pc := 67) (i := 0) dX12_open_67 rfl rfl ?_
  refine hb_getIx (pc := 68) (x := hb_fI w 12 5 0) dX12_open_68 fw_X12_195 cw_12 rfl (by decide) rfl rfl ?_
  refine hb_if_ne (pc := 71) (tgt := 89) dX12_open_71 (by decide) (fun c1 => ?_) (fun c1 => ?_)
  · have ht1 := h.1 c1
    refine hb_aload_n (pc := 89) (i := 0) dX12_open_89 rfl rfl ?_
    refine hb_aload_n (pc := 90) (i := 0) dX12_open_90 rfl rfl ?_
    refine hb_getIx (pc := 91) (x := hb_fI w 12 5 0) dX12_open_91 fw_X12_195 cw_12 rfl (by decide) rfl rfl ?_
    refine hb_putI (pc := 94) dX12_open_94 fw_X12_296 cw_12 pw_12_7 rfl (by decide) rfl rfl rfl ?_
    refine hb_aload_n (pc := 97) (i := 0) dX12_open_97 rfl rfl ?_
    refine hb_aload_n (pc := 98) (i := 0) dX12_open_98 rfl rfl ?_
    refine hb_getIx (pc := 99) (x := hb_fI w 12 6 0) dX12_open_99 fw_X12_198 cw_12 rfl (by decide) rfl rfl ?_
    refine hb_putI (pc := 102) dX12_open_102 fw_X12_13 cw_12 pw_12_8 rfl (by decide) rfl rfl rfl ?_
    refine hb_aload_n (pc := 105) (i := 0) dX12_open_105 rfl rfl ?_
    refine hb_getIx (pc := 106) (x := hb_fI w 12 5 0) dX12_open_106 fw_X12_195 cw_12 rfl (by decide) rfl rfl ?_
    refine hb_if_eq (pc := 109) (tgt := 124) dX12_open_109 (by decide) (fun c2 => ?_) (fun c2 => ?_)
    · have ht2 := ht1.1 c2
      refine hb_aload_n (pc := 124) (i := 0) dX12_open_124 rfl rfl ?_
      exact hb_callV (pc := 125) (As := []) (st := []) dX12_open_125 ml_X12_299 mf_X12_stands mi_X12_stands (ci := 12) rfl rfl (by decide) rfl rfl (Nat.le_of_ble_eq_true rfl) (Nat.le_of_ble_eq_true rfl) ht2 (fun _ _ q => q)
    · have ht2 := ht1.2 c2
      refine hb_aload_n (pc := 112) (i := 0) dX12_open_112 rfl rfl ?_
      refine hb_getR (pc := 113) (g1 := 0) dX12_open_113 fw_X12_17 cw_12 rfl (by decide) rfl (by decide) rfl ?_
      refine hb_iconst (pc := 116) (v := 1) dX12_open_116 (by decide) ?_
      refine hb_dup2ir (pc := 117) dX12_open_117 ?_
      refine hb_ialdx (pc := 118) (x := hb_aI w 12 2 0 (1 : Int32).toNatClampNeg) dX12_open_118 (n := 6) rfl (by decide) (by unfold vp_in; decide) rfl ?_
      refine hb_iconst (pc := 119) (v := 1) dX12_open_119 (by decide) ?_
      refine hb_iadd (pc := 120) dX12_open_120 ?_
      refine hb_iastx (pc := 121) (f := upd (hb_aI w 12 2 0) (1 : Int32).toNatClampNeg ((hb_aI w 12 2 0 (1 : Int32).toNatClampNeg) + (1 : Int32))) dX12_open_121 (n := 6) rfl (by decide) (by unfold vp_in; decide) rfl ?_
      refine hb_iconst (pc := 122) (v := -1) dX12_open_122 (by decide) ?_
      exact hb_iret (pc := 123) dX12_open_123 rfl ht2
  · have ht1 := h.2 c1
    refine hb_aload_n (pc := 74) (i := 0) dX12_open_74 rfl rfl ?_
    exact hb_callV (pc := 75) (As := []) (st := []) dX12_open_75 ml_X12_207 mf_X12_look mi_X12_look (ci := 12) rfl rfl (by decide) rfl rfl (Nat.le_of_ble_eq_true rfl) (Nat.le_of_ble_eq_true rfl) ht1 (fun _ _ q => q)
set_option maxRecDepth 20000 in
theorem bk_X12_open_78 {d : Nat} {w : hb_W} {Q : Option hb_V → hb_W → Prop} {xs0 : Int32} (h : ((xs0 = (-1 : Int32)) → (((hb_fI w 12 5 0) = 0) → hb_O yX12_stands cX12_stands 2 none d [hb_r 12 0 0] (hb_pI (hb_pI w 12 7 0 (hb_fI w 12 5 0)) 12 8 0 (hb_fI w 12 6 0)) (fun rv w1 => hb_R yX12_open cX12_open 1 (some .int) (d + 1) 128 [some (hb_r 12 0 0)] (rv.toList ++ []) w1 Q)) ∧ ((¬ (hb_fI w 12 5 0) = 0) → Q (some (hb_i (-1 : Int32))) (hb_sI (hb_pI (hb_pI w 12 7 0 (hb_fI w 12 5 0)) 12 8 0 (hb_fI w 12 6 0)) 12 2 0 (upd (hb_aI w 12 2 0) (1 : Int32).toNatClampNeg ((hb_aI w 12 2 0 (1 : Int32).toNatClampNeg) + (1 : Int32)))))) ∧ ((¬ xs0 = (-1 : Int32)) → hb_O yX12_statementTold cX12_statementTold 2 none d [hb_r 12 0 0] w (fun rv w1 => hb_R yX12_open cX12_open 1 (some .int) (d + 1) 86 [some (hb_r 12 0 0)] (rv.toList ++ []) w1 Q))) : hb_R yX12_open cX12_open 1 (some .int) (d + 1) 78 [some (hb_r 12 0 0)] [hb_i xs0] w Q := by
  refine hb_iconst (pc := 78) (v := -1) dX12_open_78 (by decide) ?_
  refine hb_icmp_eq (pc := 79) (tgt := 89) dX12_open_79 (by decide) (fun c1 => ?_) (fun c1 => ?_)
  · have ht1 := h.1 c1
    refine hb_aload_n (pc := 89) (i := 0) dX12_open_89 rfl rfl ?_
    refine hb_aload_n (pc := 90) (i := 0) dX12_open_90 rfl rfl ?_
    refine hb_getIx (pc := 91) (x := hb_fI w 12 5 0) dX12_open_91 fw_X12_195 cw_12 rfl (by decide) rfl rfl ?_
    refine hb_putI (pc := 94) dX12_open_94 fw_X12_296 cw_12 pw_12_7 rfl (by decide) rfl rfl rfl ?_
    refine hb_aload_n (pc := 97) (i := 0) dX12_open_97 rfl rfl ?_
    refine hb_aload_n (pc := 98) (i := 0) dX12_open_98 rfl rfl ?_
    refine hb_getIx (pc := 99) (x := hb_fI w 12 6 0) dX12_open_99 fw_X12_198 cw_12 rfl (by decide) rfl rfl ?_
    refine hb_putI (pc := 102) dX12_open_102 fw_X12_13 cw_12 pw_12_8 rfl (by decide) rfl rfl rfl ?_
    refine hb_aload_n (pc := 105) (i := 0) dX12_open_105 rfl rfl ?_
    refine hb_getIx (pc := 106) (x := hb_fI w 12 5 0) dX12_open_106 fw_X12_195 cw_12 rfl (by decide) rfl rfl ?_
    refine hb_if_eq (pc := 109) (tgt := 124) dX12_open_109 (by decide) (fun c2 => ?_) (fun c2 => ?_)
    · have ht2 := ht1.1 c2
      refine hb_aload_n (pc := 124) (i := 0) dX12_open_124 rfl rfl ?_
      exact hb_callV (pc := 125) (As := []) (st := []) dX12_open_125 ml_X12_299 mf_X12_stands mi_X12_stands (ci := 12) rfl rfl (by decide) rfl rfl (Nat.le_of_ble_eq_true rfl) (Nat.le_of_ble_eq_true rfl) ht2 (fun _ _ q => q)
    · have ht2 := ht1.2 c2
      refine hb_aload_n (pc := 112) (i := 0) dX12_open_112 rfl rfl ?_
      refine hb_getR (pc := 113) (g1 := 0) dX12_open_113 fw_X12_17 cw_12 rfl (by decide) rfl (by decide) rfl ?_
      refine hb_iconst (pc := 116) (v := 1) dX12_open_116 (by decide) ?_
      refine hb_dup2ir (pc := 117) dX12_open_117 ?_
      refine hb_ialdx (pc := 118) (x := hb_aI w 12 2 0 (1 : Int32).toNatClampNeg) dX12_open_118 (n := 6) rfl (by decide) (by unfold vp_in; decide) rfl ?_
      refine hb_iconst (pc := 119) (v := 1) dX12_open_119 (by decide) ?_
      refine hb_iadd (pc := 120) dX12_open_120 ?_
      refine hb_iastx (pc := 121) (f := upd (hb_aI w 12 2 0) (1 : Int32).toNatClampNeg ((hb_aI w 12 2 0 (1 : Int32).toNatClampNeg) + (1 : Int32))) dX12_open_121 (n := 6) rfl (by decide) (by unfold vp_in; decide) rfl ?_
      refine hb_iconst (pc := 122) (v := -1) dX12_open_122 (by decide) ?_
      exact hb_iret (pc := 123) dX12_open_123 rfl ht2
  · have ht1 := h.2 c1
    refine hb_aload_n (pc := 82) (i := 0) dX12_open_82 rfl rfl ?_
    exact hb_callV (pc := 83) (As := []) (st := []) dX12_open_83 ml_X12_293 mf_X12_statementTold mi_X12_statementTold (ci := 12) rfl rfl (by decide) rfl rfl (Nat.le_of_ble_eq_true rfl) (Nat.le_of_ble_eq_true rfl) ht1 (fun _ _ q => q)
set_option maxRecDepth 20000 in
theorem bk_X12_open_86 {d : Nat} {w : hb_W} {Q : Option hb_V → hb_W → Prop} (h : hb_R yX12_open cX12_open 1 (some .int) (d + 1) 67 [some (hb_r 12 0 0)] [] w Q) : hb_R yX12_open cX12_open 1 (some .int) (d + 1) 86 [some (hb_r 12 0 0)] [] w Q := by
  refine hb_goto (pc := 86) (tgt := 67) dX12_open_86 (by decide) ?_
  exact h
set_option maxRecDepth 20000 in
theorem bk_X12_open_128 {d : Nat} {w : hb_W} {Q : Option hb_V → hb_W → Prop} (h : Q (some (hb_i (hb_fI w 12 29 0))) w) : hb_R yX12_open cX12_open 1 (some .int) (d + 1) 128 [some (hb_r 12 0 0)] [] w Q := by
  refine hb_aload_n (pc := 128) (i := 0) dX12_open_128 rfl rfl ?_
  refine hb_getIx (pc := 129) (x := hb_fI w 12 29 0) dX12_open_129 fw_X12_281 cw_12 rfl (by decide) rfl rfl ?_
  exact hb_iret (pc := 132) dX12_open_132 rfl h
theorem dX12_stands_0 : decode cX12_stands 0 = .ok (.aload_n 0, 1) := by decide +kernel
theorem dX12_stands_1 : decode cX12_stands 1 = .ok (.iconst 1, 1) := by decide +kernel
theorem dX12_stands_2 : decode cX12_stands 2 = .ok (.putfield 302, 3) := by decide +kernel
theorem dX12_stands_5 : decode cX12_stands 5 = .ok (.aload_n 0, 1) := by decide +kernel
theorem dX12_stands_6 : decode cX12_stands 6 = .ok (.getfield 51, 3) := by decide +kernel
theorem dX12_stands_9 : decode cX12_stands 9 = .ok (.iconst 2, 1) := by decide +kernel
theorem dX12_stands_10 : decode cX12_stands 10 = .ok (.aload_n 0, 1) := by decide +kernel
theorem dX12_stands_11 : decode cX12_stands 11 = .ok (.getfield 51, 3) := by decide +kernel
theorem dX12_stands_14 : decode cX12_stands 14 = .ok (.iconst 0, 1) := by decide +kernel
theorem dX12_stands_15 : decode cX12_stands 15 = .ok (.iaload, 1) := by decide +kernel
theorem dX12_stands_16 : decode cX12_stands 16 = .ok (.iastore, 1) := by decide +kernel
theorem dX12_stands_17 : decode cX12_stands 17 = .ok (.aload_n 0, 1) := by decide +kernel
theorem dX12_stands_18 : decode cX12_stands 18 = .ok (.getfield 51, 3) := by decide +kernel
theorem dX12_stands_21 : decode cX12_stands 21 = .ok (.iconst 3, 1) := by decide +kernel
theorem dX12_stands_22 : decode cX12_stands 22 = .ok (.aload_n 0, 1) := by decide +kernel
theorem dX12_stands_23 : decode cX12_stands 23 = .ok (.getfield 51, 3) := by decide +kernel
theorem dX12_stands_26 : decode cX12_stands 26 = .ok (.iconst 1, 1) := by decide +kernel
theorem dX12_stands_27 : decode cX12_stands 27 = .ok (.iaload, 1) := by decide +kernel
theorem dX12_stands_28 : decode cX12_stands 28 = .ok (.iastore, 1) := by decide +kernel
theorem dX12_stands_29 : decode cX12_stands 29 = .ok (.aload_n 0, 1) := by decide +kernel
theorem dX12_stands_30 : decode cX12_stands 30 = .ok (.aload_n 0, 1) := by decide +kernel
theorem dX12_stands_31 : decode cX12_stands 31 = .ok (.getfield 275, 3) := by decide +kernel
theorem dX12_stands_34 : decode cX12_stands 34 = .ok (.putfield 306, 3) := by decide +kernel
theorem dX12_stands_37 : decode cX12_stands 37 = .ok (.iconst 0, 1) := by decide +kernel
theorem dX12_stands_38 : decode cX12_stands 38 = .ok (.istore_n 1, 1) := by decide +kernel
theorem dX12_stands_39 : decode cX12_stands 39 = .ok (.iload_n 1, 1) := by decide +kernel
theorem dX12_stands_40 : decode cX12_stands 40 = .ok (.bipush 80, 2) := by decide +kernel
theorem dX12_stands_42 : decode cX12_stands 42 = .ok (.if_icmp .ge 24, 3) := by decide +kernel
theorem dX12_stands_45 : decode cX12_stands 45 = .ok (.aload_n 0, 1) := by decide +kernel
theorem dX12_stands_46 : decode cX12_stands 46 = .ok (.getfield 54, 3) := by decide +kernel
theorem dX12_stands_49 : decode cX12_stands 49 = .ok (.bipush 80, 2) := by decide +kernel
theorem dX12_stands_51 : decode cX12_stands 51 = .ok (.iload_n 1, 1) := by decide +kernel
theorem dX12_stands_52 : decode cX12_stands 52 = .ok (.iadd, 1) := by decide +kernel
theorem dX12_stands_53 : decode cX12_stands 53 = .ok (.aload_n 0, 1) := by decide +kernel
theorem dX12_stands_54 : decode cX12_stands 54 = .ok (.getfield 54, 3) := by decide +kernel
theorem dX12_stands_57 : decode cX12_stands 57 = .ok (.iload_n 1, 1) := by decide +kernel
theorem dX12_stands_58 : decode cX12_stands 58 = .ok (.iaload, 1) := by decide +kernel
theorem dX12_stands_59 : decode cX12_stands 59 = .ok (.iastore, 1) := by decide +kernel
theorem dX12_stands_60 : decode cX12_stands 60 = .ok (.iinc 1 1, 3) := by decide +kernel
theorem dX12_stands_63 : decode cX12_stands 63 = .ok (.goto (-24), 3) := by decide +kernel
theorem dX12_stands_66 : decode cX12_stands 66 = .ok (.iconst 0, 1) := by decide +kernel
theorem dX12_stands_67 : decode cX12_stands 67 = .ok (.istore_n 1, 1) := by decide +kernel
theorem dX12_stands_68 : decode cX12_stands 68 = .ok (.iload_n 1, 1) := by decide +kernel
theorem dX12_stands_69 : decode cX12_stands 69 = .ok (.bipush 21, 2) := by decide +kernel
theorem dX12_stands_71 : decode cX12_stands 71 = .ok (.if_icmp .ge 39, 3) := by decide +kernel
theorem dX12_stands_74 : decode cX12_stands 74 = .ok (.aload_n 0, 1) := by decide +kernel
theorem dX12_stands_75 : decode cX12_stands 75 = .ok (.getfield 57, 3) := by decide +kernel
theorem dX12_stands_78 : decode cX12_stands 78 = .ok (.bipush 21, 2) := by decide +kernel
theorem dX12_stands_80 : decode cX12_stands 80 = .ok (.iload_n 1, 1) := by decide +kernel
theorem dX12_stands_81 : decode cX12_stands 81 = .ok (.iadd, 1) := by decide +kernel
theorem dX12_stands_82 : decode cX12_stands 82 = .ok (.aload_n 0, 1) := by decide +kernel
theorem dX12_stands_83 : decode cX12_stands 83 = .ok (.getfield 57, 3) := by decide +kernel
theorem dX12_stands_86 : decode cX12_stands 86 = .ok (.iload_n 1, 1) := by decide +kernel
theorem dX12_stands_87 : decode cX12_stands 87 = .ok (.iaload, 1) := by decide +kernel
theorem dX12_stands_88 : decode cX12_stands 88 = .ok (.iastore, 1) := by decide +kernel
theorem dX12_stands_89 : decode cX12_stands 89 = .ok (.aload_n 0, 1) := by decide +kernel
theorem dX12_stands_90 : decode cX12_stands 90 = .ok (.getfield 60, 3) := by decide +kernel
theorem dX12_stands_93 : decode cX12_stands 93 = .ok (.bipush 21, 2) := by decide +kernel
theorem dX12_stands_95 : decode cX12_stands 95 = .ok (.iload_n 1, 1) := by decide +kernel
theorem dX12_stands_96 : decode cX12_stands 96 = .ok (.iadd, 1) := by decide +kernel
theorem dX12_stands_97 : decode cX12_stands 97 = .ok (.aload_n 0, 1) := by decide +kernel
theorem dX12_stands_98 : decode cX12_stands 98 = .ok (.getfield 60, 3) := by decide +kernel
theorem dX12_stands_101 : decode cX12_stands 101 = .ok (.iload_n 1, 1) := by decide +kernel
theorem dX12_stands_102 : decode cX12_stands 102 = .ok (.iaload, 1) := by decide +kernel
theorem dX12_stands_103 : decode cX12_stands 103 = .ok (.iastore, 1) := by decide +kernel
theorem dX12_stands_104 : decode cX12_stands 104 = .ok (.iinc 1 1, 3) := by decide +kernel
theorem dX12_stands_107 : decode cX12_stands 107 = .ok (.goto (-39), 3) := by decide +kernel
theorem dX12_stands_110 : decode cX12_stands 110 = .ok (.iconst 0, 1) := by decide +kernel
theorem dX12_stands_111 : decode cX12_stands 111 = .ok (.istore_n 1, 1) := by decide +kernel
theorem dX12_stands_112 : decode cX12_stands 112 = .ok (.iload_n 1, 1) := by decide +kernel
theorem dX12_stands_113 : decode cX12_stands 113 = .ok (.aload_n 0, 1) := by decide +kernel
theorem dX12_stands_114 : decode cX12_stands 114 = .ok (.getfield 272, 3) := by decide +kernel
theorem dX12_stands_117 : decode cX12_stands 117 = .ok (.if_icmp .ge 25, 3) := by decide +kernel
theorem dX12_stands_120 : decode cX12_stands 120 = .ok (.aload_n 0, 1) := by decide +kernel
theorem dX12_stands_121 : decode cX12_stands 121 = .ok (.getfield 63, 3) := by decide +kernel
theorem dX12_stands_124 : decode cX12_stands 124 = .ok (.sipush 1600, 3) := by decide +kernel
theorem dX12_stands_127 : decode cX12_stands 127 = .ok (.iload_n 1, 1) := by decide +kernel
theorem dX12_stands_128 : decode cX12_stands 128 = .ok (.iadd, 1) := by decide +kernel
theorem dX12_stands_129 : decode cX12_stands 129 = .ok (.aload_n 0, 1) := by decide +kernel
theorem dX12_stands_130 : decode cX12_stands 130 = .ok (.getfield 63, 3) := by decide +kernel
theorem dX12_stands_133 : decode cX12_stands 133 = .ok (.iload_n 1, 1) := by decide +kernel
theorem dX12_stands_134 : decode cX12_stands 134 = .ok (.iaload, 1) := by decide +kernel
theorem dX12_stands_135 : decode cX12_stands 135 = .ok (.iastore, 1) := by decide +kernel
theorem dX12_stands_136 : decode cX12_stands 136 = .ok (.iinc 1 1, 3) := by decide +kernel
theorem dX12_stands_139 : decode cX12_stands 139 = .ok (.goto (-27), 3) := by decide +kernel
theorem dX12_stands_142 : decode cX12_stands 142 = .ok (.aload_n 0, 1) := by decide +kernel
theorem dX12_stands_143 : decode cX12_stands 143 = .ok (.getfield 66, 3) := by decide +kernel
theorem dX12_stands_146 : decode cX12_stands 146 = .ok (.iconst 0, 1) := by decide +kernel
theorem dX12_stands_147 : decode cX12_stands 147 = .ok (.aload_n 0, 1) := by decide +kernel
theorem dX12_stands_148 : decode cX12_stands 148 = .ok (.getfield 51, 3) := by decide +kernel
theorem dX12_stands_151 : decode cX12_stands 151 = .ok (.iconst 5, 1) := by decide +kernel
theorem dX12_stands_152 : decode cX12_stands 152 = .ok (.iaload, 1) := by decide +kernel
theorem dX12_stands_153 : decode cX12_stands 153 = .ok (.iastore, 1) := by decide +kernel
theorem dX12_stands_154 : decode cX12_stands 154 = .ok (.aload_n 0, 1) := by decide +kernel
theorem dX12_stands_155 : decode cX12_stands 155 = .ok (.getfield 66, 3) := by decide +kernel
theorem dX12_stands_158 : decode cX12_stands 158 = .ok (.iconst 1, 1) := by decide +kernel
theorem dX12_stands_159 : decode cX12_stands 159 = .ok (.iconst 0, 1) := by decide +kernel
theorem dX12_stands_160 : decode cX12_stands 160 = .ok (.iastore, 1) := by decide +kernel
theorem dX12_stands_161 : decode cX12_stands 161 = .ok (.iconst 0, 1) := by decide +kernel
theorem dX12_stands_162 : decode cX12_stands 162 = .ok (.istore_n 1, 1) := by decide +kernel
theorem dX12_stands_163 : decode cX12_stands 163 = .ok (.iload_n 1, 1) := by decide +kernel
theorem dX12_stands_164 : decode cX12_stands 164 = .ok (.bipush 9, 2) := by decide +kernel
theorem dX12_stands_166 : decode cX12_stands 166 = .ok (.if_icmp .ge 18, 3) := by decide +kernel
theorem dX12_stands_169 : decode cX12_stands 169 = .ok (.aload_n 0, 1) := by decide +kernel
theorem dX12_stands_170 : decode cX12_stands 170 = .ok (.getfield 66, 3) := by decide +kernel
theorem dX12_stands_173 : decode cX12_stands 173 = .ok (.iconst 2, 1) := by decide +kernel
theorem dX12_stands_174 : decode cX12_stands 174 = .ok (.iload_n 1, 1) := by decide +kernel
theorem dX12_stands_175 : decode cX12_stands 175 = .ok (.iadd, 1) := by decide +kernel
theorem dX12_stands_176 : decode cX12_stands 176 = .ok (.iconst (-1), 1) := by decide +kernel
theorem dX12_stands_177 : decode cX12_stands 177 = .ok (.iastore, 1) := by decide +kernel
theorem dX12_stands_178 : decode cX12_stands 178 = .ok (.iinc 1 1, 3) := by decide +kernel
theorem dX12_stands_181 : decode cX12_stands 181 = .ok (.goto (-18), 3) := by decide +kernel
theorem dX12_stands_184 : decode cX12_stands 184 = .ok (.aload_n 0, 1) := by decide +kernel
theorem dX12_stands_185 : decode cX12_stands 185 = .ok (.iconst 0, 1) := by decide +kernel
theorem dX12_stands_186 : decode cX12_stands 186 = .ok (.putfield 309, 3) := by decide +kernel
theorem dX12_stands_189 : decode cX12_stands 189 = .ok (.return_, 1) := by decide +kernel
set_option maxRecDepth 20000 in
theorem bk_X12_stands_0 {d : Nat} {w : hb_W} {Q : Option hb_V → hb_W → Prop} (h : hb_R yX12_stands cX12_stands 2 none d 39 [some (hb_r 12 0 0), some (hb_i (0 : Int32))] [] (hb_pI (hb_sI (hb_sI (hb_pI w 12 30 0 (1 : Int32)) 12 13 0 (upd (hb_aI w 12 13 0) (2 : Int32).toNatClampNeg (hb_aI w 12 13 0 (0 : Int32).toNatClampNeg))) 12 13 0 (upd (upd (hb_aI w 12 13 0) (2 : Int32).toNatClampNeg (hb_aI w 12 13 0 (0 : Int32).toNatClampNeg)) (3 : Int32).toNatClampNeg ((upd (hb_aI w 12 13 0) (2 : Int32).toNatClampNeg (hb_aI w 12 13 0 (0 : Int32).toNatClampNeg)) (1 : Int32).toNatClampNeg))) 12 23 0 (hb_fI w 12 22 0)) Q) : hb_R yX12_stands cX12_stands 2 none d 0 [some (hb_r 12 0 0), none] [] w Q := by
  refine hb_aload_n (pc := 0) (i := 0) dX12_stands_0 rfl rfl ?_
  refine hb_iconst (pc := 1) (v := 1) dX12_stands_1 (by decide) ?_
  refine hb_putI (pc := 2) dX12_stands_2 fw_X12_302 cw_12 pw_12_30 rfl (by decide) rfl rfl rfl ?_
  refine hb_aload_n (pc := 5) (i := 0) dX12_stands_5 rfl rfl ?_
  refine hb_getR (pc := 6) (g1 := 0) dX12_stands_6 fw_X12_51 cw_12 rfl (by decide) rfl (by decide) rfl ?_
  refine hb_iconst (pc := 9) (v := 2) dX12_stands_9 (by decide) ?_
  refine hb_aload_n (pc := 10) (i := 0) dX12_stands_10 rfl rfl ?_
  refine hb_getR (pc := 11) (g1 := 0) dX12_stands_11 fw_X12_51 cw_12 rfl (by decide) rfl (by decide) rfl ?_
  refine hb_iconst (pc := 14) (v := 0) dX12_stands_14 (by decide) ?_
  refine hb_ialdx (pc := 15) (x := hb_aI w 12 13 0 (0 : Int32).toNatClampNeg) dX12_stands_15 (n := 6) rfl (by decide) (by unfold vp_in; decide) rfl ?_
  refine hb_iastx (pc := 16) (f := upd (hb_aI w 12 13 0) (2 : Int32).toNatClampNeg (hb_aI w 12 13 0 (0 : Int32).toNatClampNeg)) dX12_stands_16 (n := 6) rfl (by decide) (by unfold vp_in; decide) rfl ?_
  refine hb_aload_n (pc := 17) (i := 0) dX12_stands_17 rfl rfl ?_
  refine hb_getR (pc := 18) (g1 := 0) dX12_stands_18 fw_X12_51 cw_12 rfl (by decide) rfl (by decide) rfl ?_
  refine hb_iconst (pc := 21) (v := 3) dX12_stands_21 (by decide) ?_
  refine hb_aload_n (pc := 22) (i := 0) dX12_stands_22 rfl rfl ?_
  refine hb_getR (pc := 23) (g1 := 0) dX12_stands_23 fw_X12_51 cw_12 rfl (by decide) rfl (by decide) rfl ?_
  refine hb_iconst (pc := 26) (v := 1) dX12_stands_26 (by decide) ?_
  refine hb_ialdx (pc := 27) (x := (upd (hb_aI w 12 13 0) (2 : Int32).toNatClampNeg (hb_aI w 12 13 0 (0 : Int32).toNatClampNeg)) (1 : Int32).toNatClampNeg) dX12_stands_27 (n := 6) rfl (by decide) (by unfold vp_in; decide) rfl ?_
  refine hb_iastx (pc := 28) (f := upd (upd (hb_aI w 12 13 0) (2 : Int32).toNatClampNeg (hb_aI w 12 13 0 (0 : Int32).toNatClampNeg)) (3 : Int32).toNatClampNeg ((upd (hb_aI w 12 13 0) (2 : Int32).toNatClampNeg (hb_aI w 12 13 0 (0 : Int32).toNatClampNeg)) (1 : Int32).toNatClampNeg)) dX12_stands_28 (n := 6) rfl (by decide) (by unfold vp_in; decide) rfl ?_
  refine hb_aload_n (pc := 29) (i := 0) dX12_stands_29 rfl rfl ?_
  refine hb_aload_n (pc := 30) (i := 0) dX12_stands_30 rfl rfl ?_
  refine hb_getIx (pc := 31) (x := hb_fI w 12 22 0) dX12_stands_31 fw_X12_275 cw_12 rfl (by decide) rfl rfl ?_
  refine hb_putI (pc := 34) dX12_stands_34 fw_X12_306 cw_12 pw_12_23 rfl (by decide) rfl rfl rfl ?_
  refine hb_iconst (pc := 37) (v := 0) dX12_stands_37 (by decide) ?_
  refine hb_istore_n (pc := 38) (i := 1) (ls1 := [some (hb_r 12 0 0), some (hb_i (0 : Int32))]) dX12_stands_38 rfl (by decide) rfl ?_
  exact h
set_option maxRecDepth 20000 in
theorem bk_X12_stands_39 {d : Nat} {w : hb_W} {Q : Option hb_V → hb_W → Prop} {x1 : Int32} (h : (((80 : Int32) ≤ x1) → hb_R yX12_stands cX12_stands 2 none d 68 [some (hb_r 12 0 0), some (hb_i (0 : Int32))] [] w Q) ∧ ((¬ (80 : Int32) ≤ x1) → vp_in x1 160 ∧ (vp_in ((80 : Int32) + x1) 160 ∧ (hb_R yX12_stands cX12_stands 2 none d 39 [some (hb_r 12 0 0), some (hb_i (x1 + (1 : Int32)))] [] (hb_sI w 12 14 0 (upd (hb_aI w 12 14 0) ((80 : Int32) + x1).toNatClampNeg (hb_aI w 12 14 0 x1.toNatClampNeg))) Q)))) : hb_R yX12_stands cX12_stands 2 none d 39 [some (hb_r 12 0 0), some (hb_i x1)] [] w Q := by
  refine hb_iload_n (pc := 39) (i := 1) dX12_stands_39 rfl rfl ?_
  refine hb_bipush (pc := 40) (v := 80) dX12_stands_40 (by decide) ?_
  refine hb_icmp_ge (pc := 42) (tgt := 66) dX12_stands_42 (by decide) (fun c1 => ?_) (fun c1 => ?_)
  · have ht1 := h.1 c1
    refine hb_iconst (pc := 66) (v := 0) dX12_stands_66 (by decide) ?_
    refine hb_istore_n (pc := 67) (i := 1) (ls1 := [some (hb_r 12 0 0), some (hb_i (0 : Int32))]) dX12_stands_67 rfl (by decide) rfl ?_
    exact ht1
  · have ht1 := h.2 c1
    refine hb_aload_n (pc := 45) (i := 0) dX12_stands_45 rfl rfl ?_
    refine hb_getR (pc := 46) (g1 := 0) dX12_stands_46 fw_X12_54 cw_12 rfl (by decide) rfl (by decide) rfl ?_
    refine hb_bipush (pc := 49) (v := 80) dX12_stands_49 (by decide) ?_
    refine hb_iload_n (pc := 51) (i := 1) dX12_stands_51 rfl rfl ?_
    refine hb_iadd (pc := 52) dX12_stands_52 ?_
    refine hb_aload_n (pc := 53) (i := 0) dX12_stands_53 rfl rfl ?_
    refine hb_getR (pc := 54) (g1 := 0) dX12_stands_54 fw_X12_54 cw_12 rfl (by decide) rfl (by decide) rfl ?_
    refine hb_iload_n (pc := 57) (i := 1) dX12_stands_57 rfl rfl ?_
    obtain ⟨ho2, hr2⟩ := ht1
    refine hb_ialdx (pc := 58) (x := hb_aI w 12 14 0 x1.toNatClampNeg) dX12_stands_58 rfl (by decide) ho2 rfl ?_
    obtain ⟨ho3, hr3⟩ := hr2
    refine hb_iastx (pc := 59) (f := upd (hb_aI w 12 14 0) ((80 : Int32) + x1).toNatClampNeg (hb_aI w 12 14 0 x1.toNatClampNeg)) dX12_stands_59 rfl (by decide) ho3 rfl ?_
    refine hb_iinc (pc := 60) (v := x1 + (1 : Int32)) (ls1 := [some (hb_r 12 0 0), some (hb_i (x1 + (1 : Int32)))]) dX12_stands_60 rfl rfl (by decide) rfl ?_
    refine hb_goto (pc := 63) (tgt := 39) dX12_stands_63 (by decide) ?_
    exact hr3
set_option maxRecDepth 20000 in
theorem bk_X12_stands_68 {d : Nat} {w : hb_W} {Q : Option hb_V → hb_W → Prop} {x1 : Int32} (h : (((21 : Int32) ≤ x1) → hb_R yX12_stands cX12_stands 2 none d 112 [some (hb_r 12 0 0), some (hb_i (0 : Int32))] [] w Q) ∧ ((¬ (21 : Int32) ≤ x1) → vp_in x1 42 ∧ (vp_in ((21 : Int32) + x1) 42 ∧ (vp_in x1 42 ∧ (vp_in ((21 : Int32) + x1) 42 ∧ (hb_R yX12_stands cX12_stands 2 none d 68 [some (hb_r 12 0 0), some (hb_i (x1 + (1 : Int32)))] [] (hb_sI (hb_sI w 12 15 0 (upd (hb_aI w 12 15 0) ((21 : Int32) + x1).toNatClampNeg (hb_aI w 12 15 0 x1.toNatClampNeg))) 12 16 0 (upd (hb_aI w 12 16 0) ((21 : Int32) + x1).toNatClampNeg (hb_aI w 12 16 0 x1.toNatClampNeg))) Q)))))) : hb_R yX12_stands cX12_stands 2 none d 68 [some (hb_r 12 0 0), some (hb_i x1)] [] w Q := by
  refine hb_iload_n (pc := 68) (i := 1) dX12_stands_68 rfl rfl ?_
  refine hb_bipush (pc := 69) (v := 21) dX12_stands_69 (by decide) ?_
  refine hb_icmp_ge (pc := 71) (tgt := 110) dX12_stands_71 (by decide) (fun c1 => ?_) (fun c1 => ?_)
  · have ht1 := h.1 c1
    refine hb_iconst (pc := 110) (v := 0) dX12_stands_110 (by decide) ?_
    refine hb_istore_n (pc := 111) (i := 1) (ls1 := [some (hb_r 12 0 0), some (hb_i (0 : Int32))]) dX12_stands_111 rfl (by decide) rfl ?_
    exact ht1
  · have ht1 := h.2 c1
    refine hb_aload_n (pc := 74) (i := 0) dX12_stands_74 rfl rfl ?_
    refine hb_getR (pc := 75) (g1 := 0) dX12_stands_75 fw_X12_57 cw_12 rfl (by decide) rfl (by decide) rfl ?_
    refine hb_bipush (pc := 78) (v := 21) dX12_stands_78 (by decide) ?_
    refine hb_iload_n (pc := 80) (i := 1) dX12_stands_80 rfl rfl ?_
    refine hb_iadd (pc := 81) dX12_stands_81 ?_
    refine hb_aload_n (pc := 82) (i := 0) dX12_stands_82 rfl rfl ?_
    refine hb_getR (pc := 83) (g1 := 0) dX12_stands_83 fw_X12_57 cw_12 rfl (by decide) rfl (by decide) rfl ?_
    refine hb_iload_n (pc := 86) (i := 1) dX12_stands_86 rfl rfl ?_
    obtain ⟨ho2, hr2⟩ := ht1
    refine hb_ialdx (pc := 87) (x := hb_aI w 12 15 0 x1.toNatClampNeg) dX12_stands_87 rfl (by decide) ho2 rfl ?_
    obtain ⟨ho3, hr3⟩ := hr2
    refine hb_iastx (pc := 88) (f := upd (hb_aI w 12 15 0) ((21 : Int32) + x1).toNatClampNeg (hb_aI w 12 15 0 x1.toNatClampNeg)) dX12_stands_88 rfl (by decide) ho3 rfl ?_
    refine hb_aload_n (pc := 89) (i := 0) dX12_stands_89 rfl rfl ?_
    refine hb_getR (pc := 90) (g1 := 0) dX12_stands_90 fw_X12_60 cw_12 rfl (by decide) rfl (by decide) rfl ?_
    refine hb_bipush (pc := 93) (v := 21) dX12_stands_93 (by decide) ?_
    refine hb_iload_n (pc := 95) (i := 1) dX12_stands_95 rfl rfl ?_
    refine hb_iadd (pc := 96) dX12_stands_96 ?_
    refine hb_aload_n (pc := 97) (i := 0) dX12_stands_97 rfl rfl ?_
    refine hb_getR (pc := 98) (g1 := 0) dX12_stands_98 fw_X12_60 cw_12 rfl (by decide) rfl (by decide) rfl ?_
    refine hb_iload_n (pc := 101) (i := 1) dX12_stands_101 rfl rfl ?_
    obtain ⟨ho4, hr4⟩ := hr3
    refine hb_ialdx (pc := 102) (x := hb_aI w 12 16 0 x1.toNatClampNeg) dX12_stands_102 rfl (by decide) ho4 rfl ?_
    obtain ⟨ho5, hr5⟩ := hr4
    refine hb_iastx (pc := 103) (f := upd (hb_aI w 12 16 0) ((21 : Int32) + x1).toNatClampNeg (hb_aI w 12 16 0 x1.toNatClampNeg)) dX12_stands_103 rfl (by decide) ho5 rfl ?_
    refine hb_iinc (pc := 104) (v := x1 + (1 : Int32)) (ls1 := [some (hb_r 12 0 0), some (hb_i (x1 + (1 : Int32)))]) dX12_stands_104 rfl rfl (by decide) rfl ?_
    refine hb_goto (pc := 107) (tgt := 68) dX12_stands_107 (by decide) ?_
    exact hr5
set_option maxRecDepth 20000 in
theorem bk_X12_stands_112 {d : Nat} {w : hb_W} {Q : Option hb_V → hb_W → Prop} {x1 : Int32} (h : (((hb_fI w 12 28 0) ≤ x1) → hb_R yX12_stands cX12_stands 2 none d 163 [some (hb_r 12 0 0), some (hb_i (0 : Int32))] [] (hb_sI (hb_sI w 12 18 0 (upd (hb_aI w 12 18 0) (0 : Int32).toNatClampNeg (hb_aI w 12 13 0 (5 : Int32).toNatClampNeg))) 12 18 0 (upd (upd (hb_aI w 12 18 0) (0 : Int32).toNatClampNeg (hb_aI w 12 13 0 (5 : Int32).toNatClampNeg)) (1 : Int32).toNatClampNeg (0 : Int32))) Q) ∧ ((¬ (hb_fI w 12 28 0) ≤ x1) → vp_in x1 3200 ∧ (vp_in ((1600 : Int32) + x1) 3200 ∧ (hb_R yX12_stands cX12_stands 2 none d 112 [some (hb_r 12 0 0), some (hb_i (x1 + (1 : Int32)))] [] (hb_sI w 12 17 0 (upd (hb_aI w 12 17 0) ((1600 : Int32) + x1).toNatClampNeg (hb_aI w 12 17 0 x1.toNatClampNeg))) Q)))) : hb_R yX12_stands cX12_stands 2 none d 112 [some (hb_r 12 0 0), some (hb_i x1)] [] w Q := by
  refine hb_iload_n (pc := 112) (i := 1) dX12_stands_112 rfl rfl ?_
  refine hb_aload_n (pc := 113) (i := 0) dX12_stands_113 rfl rfl ?_
  refine hb_getIx (pc := 114) (x := hb_fI w 12 28 0) dX12_stands_114 fw_X12_272 cw_12 rfl (by decide) rfl rfl ?_
  refine hb_icmp_ge (pc := 117) (tgt := 142) dX12_stands_117 (by decide) (fun c1 => ?_) (fun c1 => ?_)
  · have ht1 := h.1 c1
    refine hb_aload_n (pc := 142) (i := 0) dX12_stands_142 rfl rfl ?_
    refine hb_getR (pc := 143) (g1 := 0) dX12_stands_143 fw_X12_66 cw_12 rfl (by decide) rfl (by decide) rfl ?_
    refine hb_iconst (pc := 146) (v := 0) dX12_stands_146 (by decide) ?_
    refine hb_aload_n (pc := 147) (i := 0) dX12_stands_147 rfl rfl ?_
    refine hb_getR (pc := 148) (g1 := 0) dX12_stands_148 fw_X12_51 cw_12 rfl (by decide) rfl (by decide) rfl ?_
    refine hb_iconst (pc := 151) (v := 5) dX12_stands_151 (by decide) ?_
    refine hb_ialdx (pc := 152) (x := hb_aI w 12 13 0 (5 : Int32).toNatClampNeg) dX12_stands_152 (n := 6) rfl (by decide) (by unfold vp_in; decide) rfl ?_
    refine hb_iastx (pc := 153) (f := upd (hb_aI w 12 18 0) (0 : Int32).toNatClampNeg (hb_aI w 12 13 0 (5 : Int32).toNatClampNeg)) dX12_stands_153 (n := 11) rfl (by decide) (by unfold vp_in; decide) rfl ?_
    refine hb_aload_n (pc := 154) (i := 0) dX12_stands_154 rfl rfl ?_
    refine hb_getR (pc := 155) (g1 := 0) dX12_stands_155 fw_X12_66 cw_12 rfl (by decide) rfl (by decide) rfl ?_
    refine hb_iconst (pc := 158) (v := 1) dX12_stands_158 (by decide) ?_
    refine hb_iconst (pc := 159) (v := 0) dX12_stands_159 (by decide) ?_
    refine hb_iastx (pc := 160) (f := upd (upd (hb_aI w 12 18 0) (0 : Int32).toNatClampNeg (hb_aI w 12 13 0 (5 : Int32).toNatClampNeg)) (1 : Int32).toNatClampNeg (0 : Int32)) dX12_stands_160 (n := 11) rfl (by decide) (by unfold vp_in; decide) rfl ?_
    refine hb_iconst (pc := 161) (v := 0) dX12_stands_161 (by decide) ?_
    refine hb_istore_n (pc := 162) (i := 1) (ls1 := [some (hb_r 12 0 0), some (hb_i (0 : Int32))]) dX12_stands_162 rfl (by decide) rfl ?_
    exact ht1
  · have ht1 := h.2 c1
    refine hb_aload_n (pc := 120) (i := 0) dX12_stands_120 rfl rfl ?_
    refine hb_getR (pc := 121) (g1 := 0) dX12_stands_121 fw_X12_63 cw_12 rfl (by decide) rfl (by decide) rfl ?_
    refine hb_sipush (pc := 124) (v := 1600) dX12_stands_124 (by decide) ?_
    refine hb_iload_n (pc := 127) (i := 1) dX12_stands_127 rfl rfl ?_
    refine hb_iadd (pc := 128) dX12_stands_128 ?_
    refine hb_aload_n (pc := 129) (i := 0) dX12_stands_129 rfl rfl ?_
    refine hb_getR (pc := 130) (g1 := 0) dX12_stands_130 fw_X12_63 cw_12 rfl (by decide) rfl (by decide) rfl ?_
    refine hb_iload_n (pc := 133) (i := 1) dX12_stands_133 rfl rfl ?_
    obtain ⟨ho2, hr2⟩ := ht1
    refine hb_ialdx (pc := 134) (x := hb_aI w 12 17 0 x1.toNatClampNeg) dX12_stands_134 rfl (by decide) ho2 rfl ?_
    obtain ⟨ho3, hr3⟩ := hr2
    refine hb_iastx (pc := 135) (f := upd (hb_aI w 12 17 0) ((1600 : Int32) + x1).toNatClampNeg (hb_aI w 12 17 0 x1.toNatClampNeg)) dX12_stands_135 rfl (by decide) ho3 rfl ?_
    refine hb_iinc (pc := 136) (v := x1 + (1 : Int32)) (ls1 := [some (hb_r 12 0 0), some (hb_i (x1 + (1 : Int32)))]) dX12_stands_136 rfl rfl (by decide) rfl ?_
    refine hb_goto (pc := 139) (tgt := 112) dX12_stands_139 (by decide) ?_
    exact hr3
set_option maxRecDepth 20000 in
theorem bk_X12_stands_163 {d : Nat} {w : hb_W} {Q : Option hb_V → hb_W → Prop} {x1 : Int32} (h : (((9 : Int32) ≤ x1) → Q none (hb_pI w 12 55 0 (0 : Int32))) ∧ ((¬ (9 : Int32) ≤ x1) → vp_in ((2 : Int32) + x1) 11 ∧ (hb_R yX12_stands cX12_stands 2 none d 163 [some (hb_r 12 0 0), some (hb_i (x1 + (1 : Int32)))] [] (hb_sI w 12 18 0 (upd (hb_aI w 12 18 0) ((2 : Int32) + x1).toNatClampNeg (-1 : Int32))) Q))) : hb_R yX12_stands cX12_stands 2 none d 163 [some (hb_r 12 0 0), some (hb_i x1)] [] w Q := by
  refine hb_iload_n (pc := 163) (i := 1) dX12_stands_163 rfl rfl ?_
  refine hb_bipush (pc := 164) (v := 9) dX12_stands_164 (by decide) ?_
  refine hb_icmp_ge (pc := 166) (tgt := 184) dX12_stands_166 (by decide) (fun c1 => ?_) (fun c1 => ?_)
  · have ht1 := h.1 c1
    refine hb_aload_n (pc := 184) (i := 0) dX12_stands_184 rfl rfl ?_
    refine hb_iconst (pc := 185) (v := 0) dX12_stands_185 (by decide) ?_
    refine hb_putI (pc := 186) dX12_stands_186 fw_X12_309 cw_12 pw_12_55 rfl (by decide) rfl rfl rfl ?_
    exact hb_vret (pc := 189) dX12_stands_189 rfl ht1
  · have ht1 := h.2 c1
    refine hb_aload_n (pc := 169) (i := 0) dX12_stands_169 rfl rfl ?_
    refine hb_getR (pc := 170) (g1 := 0) dX12_stands_170 fw_X12_66 cw_12 rfl (by decide) rfl (by decide) rfl ?_
    refine hb_iconst (pc := 173) (v := 2) dX12_stands_173 (by decide) ?_
    refine hb_iload_n (pc := 174) (i := 1) dX12_stands_174 rfl rfl ?_
    refine hb_iadd (pc := 175) dX12_stands_175 ?_
    refine hb_iconst (pc := 176) (v := -1) dX12_stands_176 (by decide) ?_
    obtain ⟨ho2, hr2⟩ := ht1
    refine hb_iastx (pc := 177) (f := upd (hb_aI w 12 18 0) ((2 : Int32) + x1).toNatClampNeg (-1 : Int32)) dX12_stands_177 rfl (by decide) ho2 rfl ?_
    refine hb_iinc (pc := 178) (v := x1 + (1 : Int32)) (ls1 := [some (hb_r 12 0 0), some (hb_i (x1 + (1 : Int32)))]) dX12_stands_178 rfl rfl (by decide) rfl ?_
    refine hb_goto (pc := 181) (tgt := 163) dX12_stands_181 (by decide) ?_
    exact hr2
theorem dX12_fault_0 : decode cX12_fault 0 = .ok (.iload_n 1, 1) := by decide +kernel
theorem dX12_fault_1 : decode cX12_fault 1 = .ok (.ifCond .ne 10, 3) := by decide +kernel
theorem dX12_fault_4 : decode cX12_fault 4 = .ok (.aload_n 0, 1) := by decide +kernel
theorem dX12_fault_5 : decode cX12_fault 5 = .ok (.getfield 296, 3) := by decide +kernel
theorem dX12_fault_8 : decode cX12_fault 8 = .ok (.goto 16, 3) := by decide +kernel
theorem dX12_fault_11 : decode cX12_fault 11 = .ok (.iload_n 1, 1) := by decide +kernel
theorem dX12_fault_12 : decode cX12_fault 12 = .ok (.iconst 1, 1) := by decide +kernel
theorem dX12_fault_13 : decode cX12_fault 13 = .ok (.if_icmp .ne 10, 3) := by decide +kernel
theorem dX12_fault_16 : decode cX12_fault 16 = .ok (.aload_n 0, 1) := by decide +kernel
theorem dX12_fault_17 : decode cX12_fault 17 = .ok (.getfield 13, 3) := by decide +kernel
theorem dX12_fault_20 : decode cX12_fault 20 = .ok (.goto 4, 3) := by decide +kernel
theorem dX12_fault_23 : decode cX12_fault 23 = .ok (.iconst (-1), 1) := by decide +kernel
theorem dX12_fault_24 : decode cX12_fault 24 = .ok (.ireturn, 1) := by decide +kernel
set_option maxRecDepth 20000 in
theorem bk_X12_fault_0 {d : Nat} {w : hb_W} {Q : Option hb_V → hb_W → Prop} {x1 : Int32} (h : ((¬ x1 = 0) → ((¬ x1 = (1 : Int32)) → Q (some (hb_i (-1 : Int32))) w) ∧ ((x1 = (1 : Int32)) → Q (some (hb_i (hb_fI w 12 8 0))) w)) ∧ ((x1 = 0) → Q (some (hb_i (hb_fI w 12 7 0))) w)) : hb_R yX12_fault cX12_fault 2 (some .int) d 0 [some (hb_r 12 0 0), some (hb_i x1)] [] w Q := by
  refine hb_iload_n (pc := 0) (i := 1) dX12_fault_0 rfl rfl ?_
  refine hb_if_ne (pc := 1) (tgt := 11) dX12_fault_1 (by decide) (fun c1 => ?_) (fun c1 => ?_)
  · have ht1 := h.1 c1
    refine hb_iload_n (pc := 11) (i := 1) dX12_fault_11 rfl rfl ?_
    refine hb_iconst (pc := 12) (v := 1) dX12_fault_12 (by decide) ?_
    refine hb_icmp_ne (pc := 13) (tgt := 23) dX12_fault_13 (by decide) (fun c2 => ?_) (fun c2 => ?_)
    · have ht2 := ht1.1 c2
      refine hb_iconst (pc := 23) (v := -1) dX12_fault_23 (by decide) ?_
      exact hb_iret (pc := 24) dX12_fault_24 rfl ht2
    · have ht2 := ht1.2 c2
      refine hb_aload_n (pc := 16) (i := 0) dX12_fault_16 rfl rfl ?_
      refine hb_getIx (pc := 17) (x := hb_fI w 12 8 0) dX12_fault_17 fw_X12_13 cw_12 rfl (by decide) rfl rfl ?_
      refine hb_goto (pc := 20) (tgt := 24) dX12_fault_20 (by decide) ?_
      exact hb_iret (pc := 24) dX12_fault_24 rfl ht2
  · have ht1 := h.2 c1
    refine hb_aload_n (pc := 4) (i := 0) dX12_fault_4 rfl rfl ?_
    refine hb_getIx (pc := 5) (x := hb_fI w 12 7 0) dX12_fault_5 fw_X12_296 cw_12 rfl (by decide) rfl rfl ?_
    refine hb_goto (pc := 8) (tgt := 24) dX12_fault_8 (by decide) ?_
    exact hb_iret (pc := 24) dX12_fault_24 rfl ht1
